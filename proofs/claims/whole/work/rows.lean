section
-- ===== PART A: goes FIRST, ahead of the names: the tables' words, and 'selects' of the private methods out of them =====
/-- a private method of a class that the tables say can be made, by its rows of tables_1 -/
def lw_okq (q : MethodName × Nat) : Prop := (q.1.cls ≠ "java/lang/invoke/MethodHandle" ∧ q.1.cls ≠ "java/lang/invoke/VarHandle") ∧ Cond.instantiable q.1.cls q.2 ∈ tables_1 ∧ Cond.privateMethod q.1 ∈ tables_1 ∧ Cond.instanceMethod q.1 ∈ tables_1
theorem lw_p0 : lw_okq (⟨"PicturePacker$Rows", "bestFilter", "(I)I"⟩, 4) := ⟨⟨by decide +kernel, by decide +kernel⟩, List.mem_of_getElem? (i := 53) (by decide +kernel), List.mem_of_getElem? (i := 231) (by decide +kernel), List.mem_of_getElem? (i := 232) (by decide +kernel)⟩
theorem lw_p1 : lw_okq (⟨"PicturePacker$Rows", "cost", "(II)I"⟩, 4) := ⟨⟨by decide +kernel, by decide +kernel⟩, List.mem_of_getElem? (i := 53) (by decide +kernel), List.mem_of_getElem? (i := 235) (by decide +kernel), List.mem_of_getElem? (i := 236) (by decide +kernel)⟩
theorem lw_p2 : lw_okq (⟨"PicturePacker$Rows", "lay", "(III)V"⟩, 4) := ⟨⟨by decide +kernel, by decide +kernel⟩, List.mem_of_getElem? (i := 53) (by decide +kernel), List.mem_of_getElem? (i := 253) (by decide +kernel), List.mem_of_getElem? (i := 254) (by decide +kernel)⟩
theorem lw_p3 : lw_okq (⟨"PicturePacker", "addHeader", "()V"⟩, 5) := ⟨⟨by decide +kernel, by decide +kernel⟩, List.mem_of_getElem? (i := 12) (by decide +kernel), List.mem_of_getElem? (i := 271) (by decide +kernel), List.mem_of_getElem? (i := 272) (by decide +kernel)⟩
theorem lw_p4 : lw_okq (⟨"PicturePacker$Chunks", "crc", "(II)I"⟩, 3) := ⟨⟨by decide +kernel, by decide +kernel⟩, List.mem_of_getElem? (i := 103) (by decide +kernel), List.mem_of_getElem? (i := 295) (by decide +kernel), List.mem_of_getElem? (i := 296) (by decide +kernel)⟩
theorem lw_p5 : lw_okq (⟨"PicturePacker", "addData", "()V"⟩, 5) := ⟨⟨by decide +kernel, by decide +kernel⟩, List.mem_of_getElem? (i := 12) (by decide +kernel), List.mem_of_getElem? (i := 300) (by decide +kernel), List.mem_of_getElem? (i := 301) (by decide +kernel)⟩
theorem lw_p6 : lw_okq (⟨"PicturePacker$Output", "addBit", "(I)V"⟩, 4) := ⟨⟨by decide +kernel, by decide +kernel⟩, List.mem_of_getElem? (i := 77) (by decide +kernel), List.mem_of_getElem? (i := 319) (by decide +kernel), List.mem_of_getElem? (i := 320) (by decide +kernel)⟩
theorem lw_p7 : lw_okq (⟨"PicturePacker$RunFinder", "chainUpTo", "(I)V"⟩, 6) := ⟨⟨by decide +kernel, by decide +kernel⟩, List.mem_of_getElem? (i := 129) (by decide +kernel), List.mem_of_getElem? (i := 331) (by decide +kernel), List.mem_of_getElem? (i := 332) (by decide +kernel)⟩
theorem lw_p8 : lw_okq (⟨"PicturePacker$RunFinder", "mark", "(I)I"⟩, 6) := ⟨⟨by decide +kernel, by decide +kernel⟩, List.mem_of_getElem? (i := 129) (by decide +kernel), List.mem_of_getElem? (i := 335) (by decide +kernel), List.mem_of_getElem? (i := 336) (by decide +kernel)⟩
theorem lw_p9 : lw_okq (⟨"PicturePacker$RunFinder", "sameBytes", "(III)I"⟩, 6) := ⟨⟨by decide +kernel, by decide +kernel⟩, List.mem_of_getElem? (i := 129) (by decide +kernel), List.mem_of_getElem? (i := 340) (by decide +kernel), List.mem_of_getElem? (i := 341) (by decide +kernel)⟩
theorem lw_p10 : lw_okq (⟨"PicturePacker$Packer", "addRun", "(II)V"⟩, 6) := ⟨⟨by decide +kernel, by decide +kernel⟩, List.mem_of_getElem? (i := 123) (by decide +kernel), List.mem_of_getElem? (i := 344) (by decide +kernel), List.mem_of_getElem? (i := 345) (by decide +kernel)⟩
theorem lw_p11 : lw_okq (⟨"PicturePacker$Packer", "addLength", "(I)V"⟩, 6) := ⟨⟨by decide +kernel, by decide +kernel⟩, List.mem_of_getElem? (i := 123) (by decide +kernel), List.mem_of_getElem? (i := 349) (by decide +kernel), List.mem_of_getElem? (i := 350) (by decide +kernel)⟩
theorem lw_p12 : lw_okq (⟨"PicturePacker$Packer", "addRunSign", "(I)V"⟩, 6) := ⟨⟨by decide +kernel, by decide +kernel⟩, List.mem_of_getElem? (i := 123) (by decide +kernel), List.mem_of_getElem? (i := 353) (by decide +kernel), List.mem_of_getElem? (i := 354) (by decide +kernel)⟩
theorem lw_p13 : lw_okq (⟨"PicturePacker$Packer", "addLongLength", "(I)V"⟩, 6) := ⟨⟨by decide +kernel, by decide +kernel⟩, List.mem_of_getElem? (i := 123) (by decide +kernel), List.mem_of_getElem? (i := 361) (by decide +kernel), List.mem_of_getElem? (i := 362) (by decide +kernel)⟩
theorem lw_p14 : lw_okq (⟨"PicturePacker$Packer", "addDistance", "(I)V"⟩, 6) := ⟨⟨by decide +kernel, by decide +kernel⟩, List.mem_of_getElem? (i := 123) (by decide +kernel), List.mem_of_getElem? (i := 365) (by decide +kernel), List.mem_of_getElem? (i := 366) (by decide +kernel)⟩
theorem lw_p15 : lw_okq (⟨"PicturePacker$Packer", "addSingle", "(I)V"⟩, 6) := ⟨⟨by decide +kernel, by decide +kernel⟩, List.mem_of_getElem? (i := 123) (by decide +kernel), List.mem_of_getElem? (i := 369) (by decide +kernel), List.mem_of_getElem? (i := 370) (by decide +kernel)⟩
def lw_privs_1 : List (MethodName × Nat) := [(⟨"PicturePacker$Rows", "bestFilter", "(I)I"⟩, 4), (⟨"PicturePacker$Rows", "cost", "(II)I"⟩, 4), (⟨"PicturePacker$Rows", "lay", "(III)V"⟩, 4), (⟨"PicturePacker", "addHeader", "()V"⟩, 5), (⟨"PicturePacker$Chunks", "crc", "(II)I"⟩, 3), (⟨"PicturePacker", "addData", "()V"⟩, 5), (⟨"PicturePacker$Output", "addBit", "(I)V"⟩, 4), (⟨"PicturePacker$RunFinder", "chainUpTo", "(I)V"⟩, 6), (⟨"PicturePacker$RunFinder", "mark", "(I)I"⟩, 6), (⟨"PicturePacker$RunFinder", "sameBytes", "(III)I"⟩, 6), (⟨"PicturePacker$Packer", "addRun", "(II)V"⟩, 6), (⟨"PicturePacker$Packer", "addLength", "(I)V"⟩, 6), (⟨"PicturePacker$Packer", "addRunSign", "(I)V"⟩, 6), (⟨"PicturePacker$Packer", "addLongLength", "(I)V"⟩, 6), (⟨"PicturePacker$Packer", "addDistance", "(I)V"⟩, 6), (⟨"PicturePacker$Packer", "addSingle", "(I)V"⟩, 6)]
theorem lw_r1 : ∀ q ∈ lw_privs_1, lw_okq q := List.forall_mem_cons.mpr ⟨lw_p0, List.forall_mem_cons.mpr ⟨lw_p1, List.forall_mem_cons.mpr ⟨lw_p2, List.forall_mem_cons.mpr ⟨lw_p3, List.forall_mem_cons.mpr ⟨lw_p4, List.forall_mem_cons.mpr ⟨lw_p5, List.forall_mem_cons.mpr ⟨lw_p6, List.forall_mem_cons.mpr ⟨lw_p7, List.forall_mem_cons.mpr ⟨lw_p8, List.forall_mem_cons.mpr ⟨lw_p9, List.forall_mem_cons.mpr ⟨lw_p10, List.forall_mem_cons.mpr ⟨lw_p11, List.forall_mem_cons.mpr ⟨lw_p12, List.forall_mem_cons.mpr ⟨lw_p13, List.forall_mem_cons.mpr ⟨lw_p14, List.forall_mem_cons.mpr ⟨lw_p15, fun _ h => absurd h List.not_mem_nil⟩⟩⟩⟩⟩⟩⟩⟩⟩⟩⟩⟩⟩⟩⟩⟩
theorem lw_p16 : lw_okq (⟨"PicturePackerModel", "in", "(II)Z"⟩, 12) := ⟨⟨by decide +kernel, by decide +kernel⟩, List.mem_of_getElem? (i := 396) (by decide +kernel), List.mem_of_getElem? (i := 443) (by decide +kernel), List.mem_of_getElem? (i := 444) (by decide +kernel)⟩
theorem lw_p17 : lw_okq (⟨"PicturePackerModel", "makeRows", "()V"⟩, 12) := ⟨⟨by decide +kernel, by decide +kernel⟩, List.mem_of_getElem? (i := 396) (by decide +kernel), List.mem_of_getElem? (i := 460) (by decide +kernel), List.mem_of_getElem? (i := 461) (by decide +kernel)⟩
theorem lw_p18 : lw_okq (⟨"PicturePackerModel", "sumOf", "(II)I"⟩, 12) := ⟨⟨by decide +kernel, by decide +kernel⟩, List.mem_of_getElem? (i := 396) (by decide +kernel), List.mem_of_getElem? (i := 464) (by decide +kernel), List.mem_of_getElem? (i := 465) (by decide +kernel)⟩
theorem lw_p19 : lw_okq (⟨"PicturePackerModel", "filtered", "(III)I"⟩, 12) := ⟨⟨by decide +kernel, by decide +kernel⟩, List.mem_of_getElem? (i := 396) (by decide +kernel), List.mem_of_getElem? (i := 468) (by decide +kernel), List.mem_of_getElem? (i := 469) (by decide +kernel)⟩
theorem lw_p20 : lw_okq (⟨"PicturePackerModel", "byteOf", "(II)I"⟩, 12) := ⟨⟨by decide +kernel, by decide +kernel⟩, List.mem_of_getElem? (i := 396) (by decide +kernel), List.mem_of_getElem? (i := 472) (by decide +kernel), List.mem_of_getElem? (i := 473) (by decide +kernel)⟩
theorem lw_p21 : lw_okq (⟨"PicturePackerModel", "name", "(IIII)V"⟩, 12) := ⟨⟨by decide +kernel, by decide +kernel⟩, List.mem_of_getElem? (i := 396) (by decide +kernel), List.mem_of_getElem? (i := 479) (by decide +kernel), List.mem_of_getElem? (i := 480) (by decide +kernel)⟩
theorem lw_p22 : lw_okq (⟨"PicturePackerModel", "one", "(I)V"⟩, 12) := ⟨⟨by decide +kernel, by decide +kernel⟩, List.mem_of_getElem? (i := 396) (by decide +kernel), List.mem_of_getElem? (i := 483) (by decide +kernel), List.mem_of_getElem? (i := 484) (by decide +kernel)⟩
theorem lw_p23 : lw_okq (⟨"PicturePackerModel", "four", "(I)V"⟩, 12) := ⟨⟨by decide +kernel, by decide +kernel⟩, List.mem_of_getElem? (i := 396) (by decide +kernel), List.mem_of_getElem? (i := 487) (by decide +kernel), List.mem_of_getElem? (i := 488) (by decide +kernel)⟩
theorem lw_p24 : lw_okq (⟨"PicturePackerModel", "check", "(I)V"⟩, 12) := ⟨⟨by decide +kernel, by decide +kernel⟩, List.mem_of_getElem? (i := 396) (by decide +kernel), List.mem_of_getElem? (i := 491) (by decide +kernel), List.mem_of_getElem? (i := 492) (by decide +kernel)⟩
theorem lw_p25 : lw_okq (⟨"PicturePackerModel", "pack", "()V"⟩, 12) := ⟨⟨by decide +kernel, by decide +kernel⟩, List.mem_of_getElem? (i := 396) (by decide +kernel), List.mem_of_getElem? (i := 496) (by decide +kernel), List.mem_of_getElem? (i := 497) (by decide +kernel)⟩
theorem lw_p26 : lw_okq (⟨"PicturePackerModel", "next", "(I)V"⟩, 12) := ⟨⟨by decide +kernel, by decide +kernel⟩, List.mem_of_getElem? (i := 396) (by decide +kernel), List.mem_of_getElem? (i := 500) (by decide +kernel), List.mem_of_getElem? (i := 501) (by decide +kernel)⟩
theorem lw_p27 : lw_okq (⟨"PicturePackerModel", "run", "(III)I"⟩, 12) := ⟨⟨by decide +kernel, by decide +kernel⟩, List.mem_of_getElem? (i := 396) (by decide +kernel), List.mem_of_getElem? (i := 505) (by decide +kernel), List.mem_of_getElem? (i := 506) (by decide +kernel)⟩
theorem lw_p28 : lw_okq (⟨"PicturePackerModel", "length", "(I)V"⟩, 12) := ⟨⟨by decide +kernel, by decide +kernel⟩, List.mem_of_getElem? (i := 396) (by decide +kernel), List.mem_of_getElem? (i := 509) (by decide +kernel), List.mem_of_getElem? (i := 510) (by decide +kernel)⟩
theorem lw_p29 : lw_okq (⟨"PicturePackerModel", "sign", "(I)V"⟩, 12) := ⟨⟨by decide +kernel, by decide +kernel⟩, List.mem_of_getElem? (i := 396) (by decide +kernel), List.mem_of_getElem? (i := 513) (by decide +kernel), List.mem_of_getElem? (i := 514) (by decide +kernel)⟩
theorem lw_p30 : lw_okq (⟨"PicturePackerModel", "highest", "(II)V"⟩, 12) := ⟨⟨by decide +kernel, by decide +kernel⟩, List.mem_of_getElem? (i := 396) (by decide +kernel), List.mem_of_getElem? (i := 517) (by decide +kernel), List.mem_of_getElem? (i := 518) (by decide +kernel)⟩
theorem lw_p31 : lw_okq (⟨"PicturePackerModel", "lowest", "(II)V"⟩, 12) := ⟨⟨by decide +kernel, by decide +kernel⟩, List.mem_of_getElem? (i := 396) (by decide +kernel), List.mem_of_getElem? (i := 521) (by decide +kernel), List.mem_of_getElem? (i := 522) (by decide +kernel)⟩
def lw_privs_2 : List (MethodName × Nat) := [(⟨"PicturePackerModel", "in", "(II)Z"⟩, 12), (⟨"PicturePackerModel", "makeRows", "()V"⟩, 12), (⟨"PicturePackerModel", "sumOf", "(II)I"⟩, 12), (⟨"PicturePackerModel", "filtered", "(III)I"⟩, 12), (⟨"PicturePackerModel", "byteOf", "(II)I"⟩, 12), (⟨"PicturePackerModel", "name", "(IIII)V"⟩, 12), (⟨"PicturePackerModel", "one", "(I)V"⟩, 12), (⟨"PicturePackerModel", "four", "(I)V"⟩, 12), (⟨"PicturePackerModel", "check", "(I)V"⟩, 12), (⟨"PicturePackerModel", "pack", "()V"⟩, 12), (⟨"PicturePackerModel", "next", "(I)V"⟩, 12), (⟨"PicturePackerModel", "run", "(III)I"⟩, 12), (⟨"PicturePackerModel", "length", "(I)V"⟩, 12), (⟨"PicturePackerModel", "sign", "(I)V"⟩, 12), (⟨"PicturePackerModel", "highest", "(II)V"⟩, 12), (⟨"PicturePackerModel", "lowest", "(II)V"⟩, 12)]
theorem lw_r2 : ∀ q ∈ lw_privs_2, lw_okq q := List.forall_mem_cons.mpr ⟨lw_p16, List.forall_mem_cons.mpr ⟨lw_p17, List.forall_mem_cons.mpr ⟨lw_p18, List.forall_mem_cons.mpr ⟨lw_p19, List.forall_mem_cons.mpr ⟨lw_p20, List.forall_mem_cons.mpr ⟨lw_p21, List.forall_mem_cons.mpr ⟨lw_p22, List.forall_mem_cons.mpr ⟨lw_p23, List.forall_mem_cons.mpr ⟨lw_p24, List.forall_mem_cons.mpr ⟨lw_p25, List.forall_mem_cons.mpr ⟨lw_p26, List.forall_mem_cons.mpr ⟨lw_p27, List.forall_mem_cons.mpr ⟨lw_p28, List.forall_mem_cons.mpr ⟨lw_p29, List.forall_mem_cons.mpr ⟨lw_p30, List.forall_mem_cons.mpr ⟨lw_p31, fun _ h => absurd h List.not_mem_nil⟩⟩⟩⟩⟩⟩⟩⟩⟩⟩⟩⟩⟩⟩⟩⟩
theorem lw_p32 : lw_okq (⟨"PicturePackerModel", "distance", "(I)V"⟩, 12) := ⟨⟨by decide +kernel, by decide +kernel⟩, List.mem_of_getElem? (i := 396) (by decide +kernel), List.mem_of_getElem? (i := 525) (by decide +kernel), List.mem_of_getElem? (i := 526) (by decide +kernel)⟩
theorem lw_p33 : lw_okq (⟨"PicturePackerModel", "sum", "()V"⟩, 12) := ⟨⟨by decide +kernel, by decide +kernel⟩, List.mem_of_getElem? (i := 396) (by decide +kernel), List.mem_of_getElem? (i := 529) (by decide +kernel), List.mem_of_getElem? (i := 530) (by decide +kernel)⟩
def lw_privs_3 : List (MethodName × Nat) := [(⟨"PicturePackerModel", "distance", "(I)V"⟩, 12), (⟨"PicturePackerModel", "sum", "()V"⟩, 12)]
theorem lw_r3 : ∀ q ∈ lw_privs_3, lw_okq q := List.forall_mem_cons.mpr ⟨lw_p32, List.forall_mem_cons.mpr ⟨lw_p33, fun _ h => absurd h List.not_mem_nil⟩⟩
def lw_privs : List (MethodName × Nat) := lw_privs_1 ++ (lw_privs_2 ++ (lw_privs_3))
def lw_tbl : List Cond := k2_sels lw_privs ++ tables_1
theorem lw_privs_ok : ∀ q ∈ lw_privs, lw_okq q := by
  show ∀ q ∈ lw_privs_1 ++ (lw_privs_2 ++ (lw_privs_3)), lw_okq q
  exact List.forall_mem_append.mpr ⟨lw_r1, List.forall_mem_append.mpr ⟨lw_r2, lw_r3⟩⟩
end
section
/-! The tables' words that may be handed on, the classes, and one world: rows of ours over the kit's -/
def TBL : List Cond := lw_tbl.filter goodWord
theorem tb_good : ∀ w ∈ TBL, (w.onTables && w.keeps) = true ∨ ∃ ty, w = .arrayClass ty := fun w h => good_of_word (List.mem_filter.mp h).2
theorem tb_in {w : Cond} (k : Nat) (h : lw_tbl[k]? = some w) (hg : goodWord w = true) : w ∈ TBL := List.mem_filter.mpr ⟨List.mem_of_getElem? h, hg⟩
theorem tb_of {args : Array Value} {s : State} (h : ∀ w ∈ lw_tbl, w.before args s = true) : ∀ w ∈ TBL, w.before args s = true := fun w hw => h w (List.mem_filter.mp hw).1
theorem tb_gd {c0 : Cond} {ws : List Cond} (h : ∀ w ∈ ws, w ∈ TBL) : GoodIn (c0 :: TBL) ws := fun w hw => ⟨List.mem_cons_of_mem _ (h w hw), tb_good w (h w hw)⟩
theorem tb_gd0 {ws : List Cond} (h : ∀ w ∈ ws, w ∈ TBL) : GoodIn TBL ws := fun w hw => ⟨h w hw, tb_good w (h w hw)⟩
/-- the class's two written-out tables -/
def tN : Nat → Nat
  | 0 => 8
  | _ => 5
def tF (k j : Nat) : Int32 := match k with
  | 0 => ([137, 80, 78, 71, 13, 10, 26, 10] : List Int32).getD j 0
  | _ => ([8, 2, 0, 0, 0] : List Int32).getD j 0
def Stc (tb : Nat → Nat) (A : Nat → Prop) (U : State) (H : Heap) : Prop := (va_Z "PicturePacker" "SIGNATURE" "[I" (.ref (tb 0)) A U H ∧ va_Z "PicturePacker" "HEADER_END" "[I" (.ref (tb 1)) A U H) ∧ ∀ k : Nat, k < 2 → va_T .int (tb k) (tN k) (fun j => .int (tF k j)) A U H
theorem Stc.moved {tb : Nat → Nat} {A : Nat → Prop} {u U : State} {H : Heap} (hvm : u.vm.Alike U.vm) (h : Stc tb A u H) : Stc tb A U H := ⟨⟨h.1.1.moved hvm, h.1.2.moved hvm⟩, fun k hk => (h.2 k hk).moved hvm⟩
theorem Stc.kept {tb : Nat → Nat} {A : Nat → Prop} {U : State} {H H1 : Heap} (h : Stc tb A U H) (hq : ∀ a : Nat, a < H.size → ¬ A a → H1[a]? = H[a]?) : Stc tb A U H1 := ⟨⟨h.1.1.kept hq, h.1.2.kept hq⟩, fun k hk => (h.2 k hk).kept hq⟩
theorem Stc.narrow {tb : Nat → Nat} {A B : Nat → Prop} {U : State} {H : Heap} (h : Stc tb A U H) (hAB : ∀ q, B q → A q) : Stc tb B U H := ⟨⟨h.1.1.narrow hAB, h.1.2.narrow hAB⟩, fun k hk => (h.2 k hk).narrow hAB⟩
section KB
variable (cl : List vw_C) (dC : Nat → ClassId) (dI : Nat → Nat → Nat) (cI : ClassId) (tb : Nat → Nat)
/-- a method's start: its world's cells, apart -/
def Pre0 (w : va_W) (sz : Nat) (U : State) : Prop := U.heap.size = sz ∧ va_P (dC, dI) cl w U.heap ∧ va_K (dC, dI) cl [(cI, .int)] U ∧ va_D (fun _ => True) w ∧ Stc tb (va_A w sz) U U.heap
/-- a method's end -/
def End0 (A : Nat → Prop) (w : va_W) (t : State) : Prop := va_P (dC, dI) cl w t.heap ∧ va_K (dC, dI) cl [(cI, .int)] t ∧ va_D A w
/-- the world in the middle of a walk -/
def Wl (A : Nat → Prop) (s : State) (H : Heap) (locs : List Loc) (w : va_W) : Prop := va_K (dC, dI) cl [(cI, .int)] s ∧ va_P (dC, dI) cl w H ∧ va_D A w ∧ va_S A s.heap H locs ∧ (∀ q : Nat, s.heap.size ≤ q → A q) ∧ Stc tb A s s.heap
/-- contracts: a method without an answer, one that answers an int (or a boolean) -/
def CtV (l : Launch) (y : MethodName) (cc : ByteArray) (maxL : Nat) (rm : Room) (as : List Value) (w : va_W) (S : Type) (out : S → va_W) (post : S → Prop) : Prop :=
  ∀ sz : Nat, Met l y (.code y cc maxL none :: TBL) rm (va_Pc as (Pre0 cl dC dI cI tb w sz)) (va_Qv post (fun u => End0 cl dC dI cI (va_A w sz) (out u)) (va_A w sz)) rm.cells rm.slots (va_A w sz)
def CtI (l : Launch) (y : MethodName) (cc : ByteArray) (maxL : Nat) (ty : FieldType) (rm : Room) (as : List Value) (w : va_W) (S : Type) (out : S → va_W) (post : Int32 → S → Prop) : Prop :=
  ∀ sz : Nat, Met l y (.code y cc maxL (some ty) :: TBL) rm (va_Pc as (Pre0 cl dC dI cI tb w sz)) (va_Qi post (fun u => End0 cl dC dI cI (va_A w sz) (out u)) (va_A w sz)) rm.cells rm.slots (va_A w sz)
variable {cl dC dI cI tb}
theorem blind0 {as : List Value} {w : va_W} {sz : Nat} : FrameBlind (va_Pc as (Pre0 cl dC dI cI tb w sz)) := fun a U g mk q => by
  obtain ⟨q0, q1, qP, qK, qD, qT⟩ := q
  exact ⟨q0, q1, qP, va_K.moved (u := U) (U := U.calling g mk a) (Vm.Alike.refl U.vm) qK, qD, Stc.moved (u := U) (U := U.calling g mk a) (Vm.Alike.refl U.vm) qT⟩
variable {l : Launch} {y : MethodName} {cc : ByteArray} {maxL : Nat} {rm : Room} {as : List Value} {w : va_W} {S : Type} {out : S → va_W}
theorem startV {post : S → Prop} (hy : plainName y.cls = true) (hlen : (lg_sl as).length ≤ maxL)
    (body : ∀ (p : Program) (e : Env) (s : State) (m : MethodId) (below : List Frame) (meth : Method) (c : Code) (ls : Array Slot), CallFix p m c cc maxL s as.toArray TBL y.cls → meth.sig.returnType = none → meth.locks = false → meth.name = y.name → lv_has ls maxL (lv_args 0 as) → Wl cl dC dI cI tb (va_A w s.heap.size) s s.heap [] w →
      W p l e rm s m as.toArray below meth c s.heap [] 0 0 (MQ below (va_Qv post (fun u => End0 cl dC dI cI (va_A w s.heap.size) (out u)) (va_A w s.heap.size)) as.toArray s rm.cells rm.slots (va_A w s.heap.size)) (F0 m 0 ls [])) : CtV cl dC dI cI tb l y cc maxL rm as w S out post := by
  intro sz
  refine Met.ofW (cc := cc) (maxL := maxL) (ret := none) hy rfl ?_
  intro p e s m args below meth c s₁ B hml hv
  obtain ⟨rfl, hsz, hP, hK, hD0, hT0⟩ := hv
  subst hsz
  have hts := atoms_spec (ws := .code y cc maxL none :: TBL) B.pre
  rw [lg_entry_eq]
  exact body p e s m below meth c _ ⟨B.exec, B.bytes, hml, findClass_of_methodNamed B.named, fun w hw => hts w (List.mem_cons_of_mem _ hw)⟩ B.returns B.notSynchronized (name_of_methodNamed B.named B.method).1 (lv_entry as hlen) ⟨hK, hP, hD0.self, va_S.rf, fun q h => Or.inr h, hT0⟩
theorem startI {ty : FieldType} {post : Int32 → S → Prop} (hy : plainName y.cls = true) (hlen : (lg_sl as).length ≤ maxL)
    (body : ∀ (p : Program) (e : Env) (s : State) (m : MethodId) (below : List Frame) (meth : Method) (c : Code) (ls : Array Slot), CallFix p m c cc maxL s as.toArray TBL y.cls → meth.sig.returnType = some ty → meth.locks = false → meth.name = y.name → lv_has ls maxL (lv_args 0 as) → Wl cl dC dI cI tb (va_A w s.heap.size) s s.heap [] w →
      W p l e rm s m as.toArray below meth c s.heap [] 0 0 (MQ below (va_Qi post (fun u => End0 cl dC dI cI (va_A w s.heap.size) (out u)) (va_A w s.heap.size)) as.toArray s rm.cells rm.slots (va_A w s.heap.size)) (F0 m 0 ls [])) : CtI cl dC dI cI tb l y cc maxL ty rm as w S out post := by
  intro sz
  refine Met.ofW (cc := cc) (maxL := maxL) (ret := some ty) hy rfl ?_
  intro p e s m args below meth c s₁ B hml hv
  obtain ⟨rfl, hsz, hP, hK, hD0, hT0⟩ := hv
  subst hsz
  have hts := atoms_spec (ws := .code y cc maxL (some ty) :: TBL) B.pre
  rw [lg_entry_eq]
  exact body p e s m below meth c _ ⟨B.exec, B.bytes, hml, findClass_of_methodNamed B.named, fun w hw => hts w (List.mem_cons_of_mem _ hw)⟩ B.returns B.notSynchronized (name_of_methodNamed B.named B.method).1 (lv_entry as hlen) ⟨hK, hP, hD0.self, va_S.rf, fun q h => Or.inr h, hT0⟩
variable {p : Program} {e : Env} {R : Room} {s : State} {m : MethodId} {args : Array Value} {below : List Frame} {meth : Method} {c : Code} {H : Heap} {locs : List Loc} {cells slots : Nat} {Q : State → Prop} {nL pc : Nat} {ls : Array Slot} {own : String} {A : Nat → Prop} {ws : va_W} {rest : List Value}
theorem retV {post : S → Prop} {u : S} (E : CallFix p m c cc nL s args TBL own) (hr : meth.sig.returnType = none) (hlk : meth.locks = false) (hw : Wl cl dC dI cI tb A s H locs (out u)) (hp : post u) (hdg : decode cc pc = .ok (.return_, 1)) :
    W p l e R s m args below meth c H locs cells slots (MQ below (va_Qv post (fun u => End0 cl dC dI cI A (out u)) A) args s cells slots A) (F0 m pc ls []) :=
  W.vret E.1 E.2.1 hr (fun t ht hW => ⟨⟨u, rfl, hp, by rw [ht]; exact hw.2.1, va_K.moved hW.alike hw.1, hw.2.2.1⟩, hw.2.2.2.1.F ht⟩) hw.2.2.2.1.2.2 hdg hlk
theorem retI {ty : FieldType} {post : Int32 → S → Prop} {u : S} {v : Int32} (E : CallFix p m c cc nL s args TBL own) (hr : meth.sig.returnType = some ty) (hlk : meth.locks = false) (hn : narrow ty (.int v) = .int v) (hw : Wl cl dC dI cI tb A s H locs (out u)) (hp : post v u) (hdg : decode cc pc = .ok (.ireturn, 1)) :
    W p l e R s m args below meth c H locs cells slots (MQ below (va_Qi post (fun u => End0 cl dC dI cI A (out u)) A) args s cells slots A) (F0 m pc ls [.int v]) :=
  W.zret E.1 E.2.1 hr hn (fun t ht hW => ⟨⟨v, u, rfl, hp, by rw [ht]; exact hw.2.1, va_K.moved hW.alike hw.1, hw.2.2.1⟩, hw.2.2.2.1.F ht⟩) hw.2.2.2.1.2.2 hdg hlk
/-- fields -/
theorem kget {C : String} {T : u_T} {N ci index a : Nat} {fs : List Value} {v : Value} (E : CallFix p m c cc nL s args TBL own) (hw : Wl cl dC dI cI tb A s H locs ws) (hin : ∀ w ∈ u_ws C T N, w ∈ TBL) (hc : cl[ci]? = some (C, T, N)) (q0 k : Nat) (he : ws[q0]? = some (a, .inr (ci, fs))) (hk : k < N) (hlink : Cond.fieldLink own index (T k).1 (T k).2.1 (T k).2.2.1 ∈ TBL) (hv : fs[k]? = some v) (hdg : decode cc pc = .ok (.getfield index, 3))
    (kk : W p l e R s m args below meth c H locs cells slots Q (F0 m (pc + 3) ls (v :: rest))) : W p l e R s m args below meth c H locs cells slots Q (F0 m pc ls (.ref a :: rest)) :=
  va_get E.1 E.2.1 E.2.2.2.2 hin E.2.2.2.1 hw.1 hw.2.1 q0 he hc k hk (E.2.2.2.2 _ hlink) (fun _ h => h) hv hdg kk
theorem kput {C : String} {T : u_T} {N ci index a : Nat} {fs : List Value} {v : Value} {ty : FieldType} {ws' : va_W} (E : CallFix p m c cc nL s args TBL own) (hw : Wl cl dC dI cI tb A s H locs ws) (hin : ∀ w ∈ u_ws C T N, w ∈ TBL) (ty0 : Nat → FieldType) (hty : ∀ k, k < N → parseFieldDescriptor (T k).2.2.1 = some (ty0 k)) (hnm : ∀ a, a < N → ∀ b, b < N → a ≠ b → (T a).2.1 ≠ (T b).2.1) (hc : cl[ci]? = some (C, T, N)) (q0 k : Nat) (he : ws[q0]? = some (a, .inr (ci, fs))) (hk : k < N) (hlink : Cond.fieldLink own index (T k).1 (T k).2.1 (T k).2.2.1 ∈ TBL) (hfin : (T k).2.2.2 = false) (hd : ty0 k = ty) (hn : narrow ty v = v) (hfit : fits ty v = true) (hl : k < fs.length) (hws : ws.set q0 (a, .inr (ci, fs.set k v)) = ws') (hdg : decode cc pc = .ok (.putfield index, 3))
    (kk : ∀ (H1 : Heap) (locs1 : List Loc), Wl cl dC dI cI tb A s H1 locs1 ws' → W p l e R s m args below meth c H1 locs1 cells slots Q (F0 m (pc + 3) ls rest)) : W p l e R s m args below meth c H locs cells slots Q (F0 m pc ls (v :: .ref a :: rest)) :=
  va_put E.1 E.2.1 E.2.2.2.2 hin ty0 hty hnm E.2.2.2.1 hw.1 hw.2.1 hw.2.2.1 hw.2.2.2.1 q0 he hc k hk (E.2.2.2.2 _ hlink) (fun _ h => h) hfin (by rw [hty k hk, hd]) hn hfit hl hdg (fun H1 locs1 hP hD hS => kk H1 locs1 ⟨hw.1, hws ▸ hP, hws ▸ hD, hS, hw.2.2.2.2⟩)
theorem kputF {C : String} {T : u_T} {N ci index a : Nat} {fs : List Value} {v : Value} {ty : FieldType} {ws' : va_W} (E : CallFix p m c cc nL s args TBL own) (hw : Wl cl dC dI cI tb A s H locs ws) (hin : ∀ w ∈ u_ws C T N, w ∈ TBL) (ty0 : Nat → FieldType) (hty : ∀ k, k < N → parseFieldDescriptor (T k).2.2.1 = some (ty0 k)) (hnm : ∀ a, a < N → ∀ b, b < N → a ≠ b → (T a).2.1 ≠ (T b).2.1) (hc : cl[ci]? = some (C, T, N)) (q0 k : Nat) (he : ws[q0]? = some (a, .inr (ci, fs))) (hk : k < N) (hlink : Cond.fieldLink own index (T k).1 (T k).2.1 (T k).2.2.1 ∈ TBL) (hfin : (T k).2.2.2 = true) (hi : meth.name = "<init>") (hdecl : (T k).1 = own) (hd : ty0 k = ty) (hn : narrow ty v = v) (hfit : fits ty v = true) (hl : k < fs.length) (hws : ws.set q0 (a, .inr (ci, fs.set k v)) = ws') (hdg : decode cc pc = .ok (.putfield index, 3))
    (kk : ∀ (H1 : Heap) (locs1 : List Loc), Wl cl dC dI cI tb A s H1 locs1 ws' → W p l e R s m args below meth c H1 locs1 cells slots Q (F0 m (pc + 3) ls rest)) : W p l e R s m args below meth c H locs cells slots Q (F0 m pc ls (v :: .ref a :: rest)) :=
  va_putF E.1 E.2.1 E.2.2.2.2 hin ty0 hty hnm E.2.2.2.1 hw.1 hw.2.1 hw.2.2.1 hw.2.2.2.1 q0 he hc k hk (E.2.2.2.2 _ hlink) (fun _ h => h) hfin hi hdecl (by rw [hty k hk, hd]) hn hfit hl hdg (fun H1 locs1 hP hD hS => kk H1 locs1 ⟨hw.1, hws ▸ hP, hws ▸ hD, hS, hw.2.2.2.2⟩)
/-- arrays of ints -/
theorem kald {a n : Nat} {f : Nat → Int32} {i : Int32} (E : CallFix p m c cc nL s args TBL own) (hw : Wl cl dC dI cI tb A s H locs ws) (q0 : Nat) (ha : ws[q0]? = some (a, .inl (cI, n, .inl f))) (hin : vp_in i n) (hdg : decode cc pc = .ok (.iaload, 1))
    (kk : W p l e R s m args below meth c H locs cells slots Q (F0 m (pc + 1) ls (.int (f i.toNatClampNeg) :: rest))) : W p l e R s m args below meth c H locs cells slots Q (F0 m pc ls (.int i :: .ref a :: rest)) :=
  va_iald E.1 E.2.1 hw.1 hw.2.1 q0 0 ha rfl hin hdg kk
theorem kast {a n : Nat} {f : Nat → Int32} {i x : Int32} {ws' : va_W} (E : CallFix p m c cc nL s args TBL own) (hw : Wl cl dC dI cI tb A s H locs ws) (q0 : Nat) (ha : ws[q0]? = some (a, .inl (cI, n, .inl f))) (hin : vp_in i n) (hws : ws.set q0 (a, .inl (cI, n, .inl (upd f i.toNatClampNeg x))) = ws') (hdg : decode cc pc = .ok (.iastore, 1))
    (kk : ∀ (H1 : Heap) (locs1 : List Loc), Wl cl dC dI cI tb A s H1 locs1 ws' → W p l e R s m args below meth c H1 locs1 cells slots Q (F0 m (pc + 1) ls rest)) : W p l e R s m args below meth c H locs cells slots Q (F0 m pc ls (.int x :: .int i :: .ref a :: rest)) :=
  va_iast E.1 E.2.1 hw.1 hw.2.1 hw.2.2.1 hw.2.2.2.1 q0 0 ha rfl hin hdg (fun H1 locs1 hP hD hS => kk H1 locs1 ⟨hw.1, hws ▸ hP, hws ▸ hD, hS, hw.2.2.2.2⟩)
theorem kalen {a n : Nat} {f : Nat → Int32} (E : CallFix p m c cc nL s args TBL own) (hw : Wl cl dC dI cI tb A s H locs ws) (q0 : Nat) (ha : ws[q0]? = some (a, .inl (cI, n, .inl f))) (hdg : decode cc pc = .ok (.arraylength, 1))
    (kk : W p l e R s m args below meth c H locs cells slots Q (F0 m (pc + 1) ls (.int (nI n) :: rest))) : W p l e R s m args below meth c H locs cells slots Q (F0 m pc ls (.ref a :: rest)) :=
  va_alen E.1 E.2.1 hw.1 hw.2.1 q0 0 ha rfl rfl hdg kk
/-- the tables -/
theorem kgs0 {index : Nat} (E : CallFix p m c cc nL s args TBL own) (hw : Wl cl dC dI cI tb A s H locs ws) (hlink : Cond.fieldLink own index "PicturePacker" "SIGNATURE" "[I" ∈ TBL) (hdg : decode cc pc = .ok (.getstatic index, 3))
    (kk : W p l e R s m args below meth c H locs cells slots Q (F0 m (pc + 3) ls (.ref (tb 0) :: rest))) : W p l e R s m args below meth c H locs cells slots Q (F0 m pc ls rest) :=
  va_gets E.1 E.2.1 hw.2.2.2.2.2.1.1 hw.2.2.2.1 E.2.2.2.1 (E.2.2.2.2 _ hlink) (fun _ h => h) hdg kk
theorem kgs1 {index : Nat} (E : CallFix p m c cc nL s args TBL own) (hw : Wl cl dC dI cI tb A s H locs ws) (hlink : Cond.fieldLink own index "PicturePacker" "HEADER_END" "[I" ∈ TBL) (hdg : decode cc pc = .ok (.getstatic index, 3))
    (kk : W p l e R s m args below meth c H locs cells slots Q (F0 m (pc + 3) ls (.ref (tb 1) :: rest))) : W p l e R s m args below meth c H locs cells slots Q (F0 m pc ls rest) :=
  va_gets E.1 E.2.1 hw.2.2.2.2.2.1.2 hw.2.2.2.1 E.2.2.2.1 (E.2.2.2.2 _ hlink) (fun _ h => h) hdg kk
theorem ktlen {K : Nat} (E : CallFix p m c cc nL s args TBL own) (hw : Wl cl dC dI cI tb A s H locs ws) (hK2 : K < 2) (hdg : decode cc pc = .ok (.arraylength, 1))
    (kk : W p l e R s m args below meth c H locs cells slots Q (F0 m (pc + 1) ls (.int (nI (tN K)) :: rest))) : W p l e R s m args below meth c H locs cells slots Q (F0 m pc ls (.ref (tb K) :: rest)) :=
  va_tlen E.1 E.2.1 (hw.2.2.2.2.2.2 K hK2) hw.2.2.2.1 rfl hdg kk
theorem ktld {K : Nat} {i : Int32} (E : CallFix p m c cc nL s args TBL own) (hw : Wl cl dC dI cI tb A s H locs ws) (hK2 : K < 2) (hin : vp_in i (tN K)) (hdg : decode cc pc = .ok (.iaload, 1))
    (kk : W p l e R s m args below meth c H locs cells slots Q (F0 m (pc + 1) ls (.int (tF K i.toNatClampNeg) :: rest))) : W p l e R s m args below meth c H locs cells slots Q (F0 m pc ls (.int i :: .ref (tb K) :: rest)) :=
  va_ti E.1 E.2.1 (hw.2.2.2.2.2.2 K hK2) hw.2.2.2.1 hin rfl hdg kk
/-- Math -/
theorem kmax {index : Nat} {x y : Int32} (E : CallFix p m c cc nL s args TBL own) (hn : ls.size = nL) (hlink : Cond.methodLink own index Lib.Math.max.name ∈ TBL) (hst : Cond.static Lib.Math.max.name ∈ TBL) (hini : Cond.initialized "java/lang/Math" ∈ TBL) (hcode : Cond.code Lib.Math.max.name Lib.Math.max.code 2 (some .int) ∈ TBL) (hf : 1 ≤ R.frames) (hlo : (rest.map fun v => v.category).sum + 13 ≤ R.locals) (hc : cells ≤ R.cells) (hs : slots ≤ R.slots) (hdg : decode cc pc = .ok (.invokestatic index, 3))
    (kk : W p l e R s m args below meth c H locs cells slots Q (F0 m (pc + 3) ls (.int (if x < y then y else x) :: rest))) : W p l e R s m args below meth c H locs cells slots Q (F0 m pc ls (.int y :: .int x :: rest)) :=
  va_mmax E.1 E.2.1 (by rw [E.2.2.1, hn]) E.2.2.2.1 (E.2.2.2.2 _ hlink) (E.2.2.2.2 _ hst) (E.2.2.2.2 _ hini) (E.2.2.2.2 _ hcode) hf hlo hc hs hdg kk
theorem kmin {index : Nat} {x y : Int32} (E : CallFix p m c cc nL s args TBL own) (hn : ls.size = nL) (hlink : Cond.methodLink own index Lib.Math.min.name ∈ TBL) (hst : Cond.static Lib.Math.min.name ∈ TBL) (hini : Cond.initialized "java/lang/Math" ∈ TBL) (hcode : Cond.code Lib.Math.min.name Lib.Math.min.code 2 (some .int) ∈ TBL) (hf : 1 ≤ R.frames) (hlo : (rest.map fun v => v.category).sum + 13 ≤ R.locals) (hc : cells ≤ R.cells) (hs : slots ≤ R.slots) (hdg : decode cc pc = .ok (.invokestatic index, 3))
    (kk : W p l e R s m args below meth c H locs cells slots Q (F0 m (pc + 3) ls (.int (if y < x then y else x) :: rest))) : W p l e R s m args below meth c H locs cells slots Q (F0 m pc ls (.int y :: .int x :: rest)) :=
  va_mmin E.1 E.2.1 (by rw [E.2.2.1, hn]) E.2.2.2.1 (E.2.2.2.2 _ hlink) (E.2.2.2.2 _ hst) (E.2.2.2.2 _ hini) (E.2.2.2.2 _ hcode) hf hlo hc hs hdg kk
theorem kabs {index : Nat} {x : Int32} (E : CallFix p m c cc nL s args TBL own) (hn : ls.size = nL) (hlink : Cond.methodLink own index Lib.Math.abs.name ∈ TBL) (hst : Cond.static Lib.Math.abs.name ∈ TBL) (hini : Cond.initialized "java/lang/Math" ∈ TBL) (hcode : Cond.code Lib.Math.abs.name Lib.Math.abs.code 1 (some .int) ∈ TBL) (hf : 1 ≤ R.frames) (hlo : (rest.map fun v => v.category).sum + 13 ≤ R.locals) (hc : cells ≤ R.cells) (hs : slots ≤ R.slots) (hdg : decode cc pc = .ok (.invokestatic index, 3))
    (kk : W p l e R s m args below meth c H locs cells slots Q (F0 m (pc + 3) ls (.int (if 0 ≤ x then x else 0 - x) :: rest))) : W p l e R s m args below meth c H locs cells slots Q (F0 m pc ls (.int x :: rest)) :=
  va_mabs E.1 E.2.1 (by rw [E.2.2.1, hn]) E.2.2.2.1 (E.2.2.2.2 _ hlink) (E.2.2.2.2 _ hst) (E.2.2.2.2 _ hini) (E.2.2.2.2 _ hcode) hf hlo hc hs hdg kk
end KB
/-! Calls -/
section KC
variable {cl : List vw_C} {dC : Nat → ClassId} {dI : Nat → Nat → Nat} {cI : ClassId} {tb : Nat → Nat} {l : Launch} {y : MethodName} {cc bytes : ByteArray} {maxL : Nat} {rm : Room} {S : Type} {out : S → va_W}
variable {p : Program} {e : Env} {R : Room} {s : State} {m : MethodId} {args : Array Value} {below : List Frame} {meth : Method} {c : Code} {H : Heap} {locs : List Loc} {cells slots cells' slots' : Nat} {Q : State → Prop} {nL pc index : Nat} {ls : Array Slot} {own : String} {A : Nat → Prop} {ws wc wr : va_W} {rest st : List Value}
/-- behind a call: the rest of the world as it was, the callee's cells as it leaves them, in the caller's order -/
theorem Wl.join {ws' w1 : va_W} {H1 : Heap} {locs1 : List Loc} {t : State} (hw : Wl cl dC dI cI tb A s H locs ws) (isC isR perm : List Nat) (hC : isC.map (fun i => ws[i]?) = wc.map some) (hR : isR.map (fun i => ws[i]?) = wr.map some) (hn : va_nd isR = true) (hdis : ∀ i ∈ isR, i ∉ isC) (hnp : va_nd perm = true) (hp : perm.map (fun i => (wr ++ w1)[i]?) = ws'.map some)
    (ht : t.heap = H1) (hB : End0 cl dC dI cI (va_A wc H.size) w1 t) (hk : ∀ q : Nat, q < H.size → ¬ va_A wc H.size q → H1[q]? = H[q]?) (hS : va_S A s.heap H1 locs1) : Wl cl dC dI cI tb A s H1 locs1 ws' := by
  obtain ⟨hP1, -, hD1⟩ := hB
  rw [ht] at hP1
  obtain ⟨hP, hD⟩ := va_join hw.2.1 hw.2.2.1 isC isR hC hR hn hdis hk (va_free hw.2.2.1 hw.2.2.2.1 hw.2.2.2.2.1 isC hC) hP1 hD1
  refine ⟨hw.1, ?_, hD.sub perm hnp hp, hS, hw.2.2.2.2⟩
  intro k q hq
  have h1 : (perm.map (fun i => (wr ++ w1)[i]?))[k]? = some (some q) := by rw [hp, List.getElem?_map, hq]; rfl
  rw [List.getElem?_map] at h1
  cases hi : perm[k]? with
  | none => rw [hi] at h1; cases h1
  | some i => rw [hi] at h1; exact hP i q (Option.some.inj h1)
theorem Wl.sub (hw : Wl cl dC dI cI tb A s H locs ws) (isC : List Nat) (hC : isC.map (fun i => ws[i]?) = wc.map some) : va_P (dC, dI) cl wc H := by
  intro k q hq
  have h1 : (isC.map (fun i => ws[i]?))[k]? = some (some q) := by rw [hC, List.getElem?_map, hq]; rfl
  rw [List.getElem?_map] at h1
  cases hi : isC[k]? with
  | none => rw [hi] at h1; cases h1
  | some i => rw [hi] at h1; exact hw.2.1 i q (Option.some.inj h1)
theorem Wl.pre {av : List Value} (hw : Wl cl dC dI cI tb A s H locs ws) (isC : List Nat) (hC : isC.map (fun i => ws[i]?) = wc.map some) (hn : va_nd isC = true) : ∀ U : State, U.heap = H → s.WarmedH U.vm → va_Pc av (Pre0 cl dC dI cI tb wc H.size) av.toArray U :=
  fun U hU hW => ⟨rfl, by rw [hU], by rw [hU]; exact hw.sub isC hC, va_K.moved hW.alike hw.1, (hw.2.2.1.sub isC hn hC).weaken (fun _ _ _ _ => trivial), by rw [hU]; exact ((hw.2.2.2.2.2.kept hw.2.2.2.1.2.1).moved hW.alike).narrow (va_free hw.2.2.1 hw.2.2.2.1 hw.2.2.2.2.1 isC hC)⟩
theorem kVv {post : S → Prop} {ws' : S → va_W} {As : List Value} {b ci : Nat} {q : vw_C} {fs : List Value} (E : CallFix p m c cc nL s args TBL own) (hw : Wl cl dC dI cI tb A s H locs ws) (hct : CtV cl dC dI cI tb l y bytes maxL rm (.ref b :: As) wc S out post)
    (h1 : Cond.methodLink own index y ∈ TBL) (h2 : Cond.instanceMethod y ∈ TBL) (h3 : Cond.selects y.cls y y ∈ TBL) (h4 : Cond.initialized y.cls ∈ TBL) (h5 : Cond.code y bytes maxL none ∈ TBL)
    (n : Nat) (hd : y.cls ≠ "java/lang/invoke/MethodHandle" ∧ y.cls ≠ "java/lang/invoke/VarHandle" ∧ (parseMethodDescriptor y.desc).map (fun d => d.parameters.length) = some n) (hR0 : rm.frames + 1 ≤ R.frames ∧ 8 + (maxL + 11) + rm.locals ≤ R.locals) (hR1 : cells + rm.cells ≤ R.cells ∧ slots + rm.slots ≤ R.slots) (hcs : cells + rm.cells = cells' ∧ slots + rm.slots = slots')
    (hc : cl[ci]? = some q) (hq : q.1 = y.cls) (q0 : Nat) (he : ws[q0]? = some (b, .inr (ci, fs)))
    (isC isR perm : List Nat) (hC : isC.map (fun i => ws[i]?) = wc.map some) (hnC : va_nd isC = true) (hRr : isR.map (fun i => ws[i]?) = wr.map some) (hn : va_nd isR = true) (hdis : ∀ i ∈ isR, i ∉ isC) (hnp : va_nd perm = true) (hp : ∀ u : S, perm.map (fun i => (wr ++ out u)[i]?) = (ws' u).map some)
    (hls : ls.size = nL) (hlen : As.length = n) (hst : st = As.reverse ++ .ref b :: rest) (hroom : (rest.map fun v => v.category).sum ≤ 8) (hdg : decode cc pc = .ok (.invokevirtual index, 3))
    (kk : ∀ (u : S) (H1 : Heap) (locs1 : List Loc), post u → Wl cl dC dI cI tb A s H1 locs1 (ws' u) → W p l e R s m args below meth c H1 locs1 cells' slots' Q (F0 m (pc + 3) ls rest)) : W p l e R s m args below meth c H locs cells slots Q (F0 m pc ls st) := by
  obtain ⟨rfl, rfl⟩ := hcs
  have hG : GoodIn TBL (wsV own index y.cls y (.code y bytes maxL none :: TBL)) := tb_gd0 (fun w hw => by
    unfold wsV at hw
    simp only [List.cons_append, List.nil_append, List.mem_cons] at hw
    rcases hw with rfl | rfl | rfl | rfl | rfl | hw
    · exact h1
    · exact h2
    · exact h3
    · exact h4
    · exact h5
    · exact hw)
  obtain ⟨cellB, z1, z2, z3⟩ := va_recv hw.1 hw.2.1 hc he
  have hF := va_free hw.2.2.1 hw.2.2.2.1 hw.2.2.2.2.1 isC hC
  refine va_callv (va_runV (C := y.cls) (As := As) (rest := rest) E (hct H.size) (cwV n E.2.2.2.2 hG rfl rfl rfl ⟨rfl, hd⟩ hR0) ⟨blind0, ⟨cellB, z1, z2, by rw [← hq]; exact z3⟩, hw.pre isC hC hnC⟩ rfl hlen hls hst (lv_room hroom) hdg hR1) hw.2.2.2.1 (fun q _ h => hF q h) hF (fun u t H1 locs1 ht hvm hpost hB hz1 hk1 hS => ?_)
  exact kk u H1 locs1 hpost (hw.join isC isR perm hC hRr hn hdis hnp (hp u) ht hB hk1 hS)
theorem kVi {ty : FieldType} {post : Int32 → S → Prop} {ws' : S → va_W} {As : List Value} {b ci : Nat} {q : vw_C} {fs : List Value} (E : CallFix p m c cc nL s args TBL own) (hw : Wl cl dC dI cI tb A s H locs ws) (hct : CtI cl dC dI cI tb l y bytes maxL ty rm (.ref b :: As) wc S out post)
    (h1 : Cond.methodLink own index y ∈ TBL) (h2 : Cond.instanceMethod y ∈ TBL) (h3 : Cond.selects y.cls y y ∈ TBL) (h4 : Cond.initialized y.cls ∈ TBL) (h5 : Cond.code y bytes maxL (some ty) ∈ TBL)
    (n : Nat) (hd : y.cls ≠ "java/lang/invoke/MethodHandle" ∧ y.cls ≠ "java/lang/invoke/VarHandle" ∧ (parseMethodDescriptor y.desc).map (fun d => d.parameters.length) = some n) (hR0 : rm.frames + 1 ≤ R.frames ∧ 8 + (maxL + 11) + rm.locals ≤ R.locals) (hR1 : cells + rm.cells ≤ R.cells ∧ slots + rm.slots ≤ R.slots) (hcs : cells + rm.cells = cells' ∧ slots + rm.slots = slots')
    (hc : cl[ci]? = some q) (hq : q.1 = y.cls) (q0 : Nat) (he : ws[q0]? = some (b, .inr (ci, fs)))
    (isC isR perm : List Nat) (hC : isC.map (fun i => ws[i]?) = wc.map some) (hnC : va_nd isC = true) (hRr : isR.map (fun i => ws[i]?) = wr.map some) (hn : va_nd isR = true) (hdis : ∀ i ∈ isR, i ∉ isC) (hnp : va_nd perm = true) (hp : ∀ u : S, perm.map (fun i => (wr ++ out u)[i]?) = (ws' u).map some)
    (hls : ls.size = nL) (hlen : As.length = n) (hst : st = As.reverse ++ .ref b :: rest) (hroom : (rest.map fun v => v.category).sum ≤ 8) (hdg : decode cc pc = .ok (.invokevirtual index, 3))
    (kk : ∀ (r : Int32) (u : S) (H1 : Heap) (locs1 : List Loc), post r u → Wl cl dC dI cI tb A s H1 locs1 (ws' u) → W p l e R s m args below meth c H1 locs1 cells' slots' Q (F0 m (pc + 3) ls (.int r :: rest))) : W p l e R s m args below meth c H locs cells slots Q (F0 m pc ls st) := by
  obtain ⟨rfl, rfl⟩ := hcs
  have hG : GoodIn TBL (wsV own index y.cls y (.code y bytes maxL (some ty) :: TBL)) := tb_gd0 (fun w hw => by
    unfold wsV at hw
    simp only [List.cons_append, List.nil_append, List.mem_cons] at hw
    rcases hw with rfl | rfl | rfl | rfl | rfl | hw
    · exact h1
    · exact h2
    · exact h3
    · exact h4
    · exact h5
    · exact hw)
  obtain ⟨cellB, z1, z2, z3⟩ := va_recv hw.1 hw.2.1 hc he
  have hF := va_free hw.2.2.1 hw.2.2.2.1 hw.2.2.2.2.1 isC hC
  refine va_calli (va_runV (C := y.cls) (As := As) (rest := rest) E (hct H.size) (cwV n E.2.2.2.2 hG rfl rfl rfl ⟨rfl, hd⟩ hR0) ⟨blind0, ⟨cellB, z1, z2, by rw [← hq]; exact z3⟩, hw.pre isC hC hnC⟩ rfl hlen hls hst (lv_room hroom) hdg hR1) hw.2.2.2.1 (fun q _ h => hF q h) hF (fun r u t H1 locs1 ht hvm hpost hB hz1 hk1 hS => ?_)
  exact kk r u H1 locs1 hpost (hw.join isC isR perm hC hRr hn hdis hnp (hp u) ht hB hk1 hS)
theorem kSv {post : S → Prop} {ws' : S → va_W} {As : List Value} (E : CallFix p m c cc nL s args TBL own) (hw : Wl cl dC dI cI tb A s H locs ws) (hct : CtV cl dC dI cI tb l y bytes maxL rm As wc S out post)
    (h1 : Cond.methodLink own index y ∈ TBL) (h2 : Cond.static y ∈ TBL) (h4 : Cond.initialized y.cls ∈ TBL) (h5 : Cond.code y bytes maxL none ∈ TBL)
    (n : Nat) (hd : y.cls ≠ "java/lang/invoke/MethodHandle" ∧ y.cls ≠ "java/lang/invoke/VarHandle" ∧ (parseMethodDescriptor y.desc).map (fun d => d.parameters.length) = some n) (hR0 : rm.frames + 1 ≤ R.frames ∧ 8 + (maxL + 11) + rm.locals ≤ R.locals) (hR1 : cells + rm.cells ≤ R.cells ∧ slots + rm.slots ≤ R.slots) (hcs : cells + rm.cells = cells' ∧ slots + rm.slots = slots')
    (isC isR perm : List Nat) (hC : isC.map (fun i => ws[i]?) = wc.map some) (hnC : va_nd isC = true) (hRr : isR.map (fun i => ws[i]?) = wr.map some) (hn : va_nd isR = true) (hdis : ∀ i ∈ isR, i ∉ isC) (hnp : va_nd perm = true) (hp : ∀ u : S, perm.map (fun i => (wr ++ out u)[i]?) = (ws' u).map some)
    (hls : ls.size = nL) (hlen : As.length = n) (hst : st = As.reverse ++ rest) (hroom : (rest.map fun v => v.category).sum ≤ 8) (hdg : decode cc pc = .ok (.invokestatic index, 3))
    (kk : ∀ (u : S) (H1 : Heap) (locs1 : List Loc), post u → Wl cl dC dI cI tb A s H1 locs1 (ws' u) → W p l e R s m args below meth c H1 locs1 cells' slots' Q (F0 m (pc + 3) ls rest)) : W p l e R s m args below meth c H locs cells slots Q (F0 m pc ls st) := by
  obtain ⟨rfl, rfl⟩ := hcs
  have hG : GoodIn TBL (va_wsS own index y (.code y bytes maxL none :: TBL)) := tb_gd0 (fun w hw => by
    unfold va_wsS at hw
    simp only [List.cons_append, List.nil_append, List.mem_cons] at hw
    rcases hw with rfl | rfl | rfl | rfl | hw
    · exact h1
    · exact h2
    · exact h4
    · exact h5
    · exact hw)
  have hF := va_free hw.2.2.1 hw.2.2.2.1 hw.2.2.2.2.1 isC hC
  refine va_callv (va_runS (As := As) (rest := rest) E (hct H.size) (va_cwS n E.2.2.2.2 hG rfl rfl rfl hd hR0) ⟨blind0, hw.pre isC hC hnC⟩ rfl hlen hls hst (lv_room hroom) hdg hR1) hw.2.2.2.1 (fun q _ h => hF q h) hF (fun u t H1 locs1 ht hvm hpost hB hz1 hk1 hS => ?_)
  exact kk u H1 locs1 hpost (hw.join isC isR perm hC hRr hn hdis hnp (hp u) ht hB hk1 hS)
theorem kSi {ty : FieldType} {post : Int32 → S → Prop} {ws' : S → va_W} {As : List Value} (E : CallFix p m c cc nL s args TBL own) (hw : Wl cl dC dI cI tb A s H locs ws) (hct : CtI cl dC dI cI tb l y bytes maxL ty rm As wc S out post)
    (h1 : Cond.methodLink own index y ∈ TBL) (h2 : Cond.static y ∈ TBL) (h4 : Cond.initialized y.cls ∈ TBL) (h5 : Cond.code y bytes maxL (some ty) ∈ TBL)
    (n : Nat) (hd : y.cls ≠ "java/lang/invoke/MethodHandle" ∧ y.cls ≠ "java/lang/invoke/VarHandle" ∧ (parseMethodDescriptor y.desc).map (fun d => d.parameters.length) = some n) (hR0 : rm.frames + 1 ≤ R.frames ∧ 8 + (maxL + 11) + rm.locals ≤ R.locals) (hR1 : cells + rm.cells ≤ R.cells ∧ slots + rm.slots ≤ R.slots) (hcs : cells + rm.cells = cells' ∧ slots + rm.slots = slots')
    (isC isR perm : List Nat) (hC : isC.map (fun i => ws[i]?) = wc.map some) (hnC : va_nd isC = true) (hRr : isR.map (fun i => ws[i]?) = wr.map some) (hn : va_nd isR = true) (hdis : ∀ i ∈ isR, i ∉ isC) (hnp : va_nd perm = true) (hp : ∀ u : S, perm.map (fun i => (wr ++ out u)[i]?) = (ws' u).map some)
    (hls : ls.size = nL) (hlen : As.length = n) (hst : st = As.reverse ++ rest) (hroom : (rest.map fun v => v.category).sum ≤ 8) (hdg : decode cc pc = .ok (.invokestatic index, 3))
    (kk : ∀ (r : Int32) (u : S) (H1 : Heap) (locs1 : List Loc), post r u → Wl cl dC dI cI tb A s H1 locs1 (ws' u) → W p l e R s m args below meth c H1 locs1 cells' slots' Q (F0 m (pc + 3) ls (.int r :: rest))) : W p l e R s m args below meth c H locs cells slots Q (F0 m pc ls st) := by
  obtain ⟨rfl, rfl⟩ := hcs
  have hG : GoodIn TBL (va_wsS own index y (.code y bytes maxL (some ty) :: TBL)) := tb_gd0 (fun w hw => by
    unfold va_wsS at hw
    simp only [List.cons_append, List.nil_append, List.mem_cons] at hw
    rcases hw with rfl | rfl | rfl | rfl | hw
    · exact h1
    · exact h2
    · exact h4
    · exact h5
    · exact hw)
  have hF := va_free hw.2.2.1 hw.2.2.2.1 hw.2.2.2.2.1 isC hC
  refine va_calli (va_runS (As := As) (rest := rest) E (hct H.size) (va_cwS n E.2.2.2.2 hG rfl rfl rfl hd hR0) ⟨blind0, hw.pre isC hC hnC⟩ rfl hlen hls hst (lv_room hroom) hdg hR1) hw.2.2.2.1 (fun q _ h => hF q h) hF (fun r u t H1 locs1 ht hvm hpost hB hz1 hk1 hS => ?_)
  exact kk r u H1 locs1 hpost (hw.join isC isR perm hC hRr hn hdis hnp (hp u) ht hB hk1 hS)
end KC
end
section
/-! classes: their fields in the order of the slots -/
def F_PP : u_T := fun k => match k with
  | 0 => ("PicturePacker", "picture", "LPicturePacker$Picture;", true)
  | 1 => ("PicturePacker", "rows", "LPicturePacker$Rows;", true)
  | 2 => ("PicturePacker", "file", "LPicturePacker$Output;", true)
  | 3 => ("PicturePacker", "chunks", "LPicturePacker$Chunks;", true)
  | _ => ("PicturePacker", "packer", "LPicturePacker$Packer;", true)
def t_PP : Nat → FieldType := fun k => match k with
  | 0 => .object "PicturePacker$Picture"
  | 1 => .object "PicturePacker$Rows"
  | 2 => .object "PicturePacker$Output"
  | 3 => .object "PicturePacker$Chunks"
  | _ => .object "PicturePacker$Packer"
theorem n_PP : ∀ a, a < 5 → ∀ b, b < 5 → a ≠ b → (F_PP a).2.1 ≠ (F_PP b).2.1 := by decide +kernel
theorem t_PP_ok : ∀ k, k < 5 → parseFieldDescriptor (F_PP k).2.2.1 = some (t_PP k) := by decide +kernel
theorem in_PP : ∀ w ∈ u_ws "PicturePacker" F_PP 5, w ∈ TBL := by decide +kernel
def F_Pic : u_T := fun k => match k with
  | 0 => ("PicturePacker$Picture", "width", "I", true)
  | 1 => ("PicturePacker$Picture", "height", "I", true)
  | 2 => ("PicturePacker$Picture", "stride", "I", true)
  | _ => ("PicturePacker$Picture", "bytes", "[I", true)
def t_Pic : Nat → FieldType := fun k => match k with
  | 0 => .int
  | 1 => .int
  | 2 => .int
  | _ => .array .int
theorem n_Pic : ∀ a, a < 4 → ∀ b, b < 4 → a ≠ b → (F_Pic a).2.1 ≠ (F_Pic b).2.1 := by decide +kernel
theorem t_Pic_ok : ∀ k, k < 4 → parseFieldDescriptor (F_Pic k).2.2.1 = some (t_Pic k) := by decide +kernel
theorem in_Pic : ∀ w ∈ u_ws "PicturePacker$Picture" F_Pic 4, w ∈ TBL := by decide +kernel
def F_Rows : u_T := fun k => match k with
  | 0 => ("PicturePacker$Rows", "bytes", "[I", true)
  | 1 => ("PicturePacker$Rows", "filters", "[I", true)
  | 2 => ("PicturePacker$Rows", "picture", "LPicturePacker$Picture;", true)
  | _ => ("PicturePacker$Rows", "rowLength", "I", true)
def t_Rows : Nat → FieldType := fun k => match k with
  | 0 => .array .int
  | 1 => .array .int
  | 2 => .object "PicturePacker$Picture"
  | _ => .int
theorem n_Rows : ∀ a, a < 4 → ∀ b, b < 4 → a ≠ b → (F_Rows a).2.1 ≠ (F_Rows b).2.1 := by decide +kernel
theorem t_Rows_ok : ∀ k, k < 4 → parseFieldDescriptor (F_Rows k).2.2.1 = some (t_Rows k) := by decide +kernel
theorem in_Rows : ∀ w ∈ u_ws "PicturePacker$Rows" F_Rows 4, w ∈ TBL := by decide +kernel
def F_Out : u_T := fun k => match k with
  | 0 => ("PicturePacker$Output", "bytes", "[I", true)
  | 1 => ("PicturePacker$Output", "size", "I", false)
  | 2 => ("PicturePacker$Output", "gathered", "I", false)
  | _ => ("PicturePacker$Output", "gatheredBits", "I", false)
def t_Out : Nat → FieldType := fun k => match k with
  | 0 => .array .int
  | 1 => .int
  | 2 => .int
  | _ => .int
theorem n_Out : ∀ a, a < 4 → ∀ b, b < 4 → a ≠ b → (F_Out a).2.1 ≠ (F_Out b).2.1 := by decide +kernel
theorem t_Out_ok : ∀ k, k < 4 → parseFieldDescriptor (F_Out k).2.2.1 = some (t_Out k) := by decide +kernel
theorem in_Out : ∀ w ∈ u_ws "PicturePacker$Output" F_Out 4, w ∈ TBL := by decide +kernel
def F_Chk : u_T := fun k => match k with
  | 0 => ("PicturePacker$Chunks", "file", "LPicturePacker$Output;", true)
  | 1 => ("PicturePacker$Chunks", "crcOfByte", "[I", true)
  | _ => ("PicturePacker$Chunks", "start", "I", false)
def t_Chk : Nat → FieldType := fun k => match k with
  | 0 => .object "PicturePacker$Output"
  | 1 => .array .int
  | _ => .int
theorem n_Chk : ∀ a, a < 3 → ∀ b, b < 3 → a ≠ b → (F_Chk a).2.1 ≠ (F_Chk b).2.1 := by decide +kernel
theorem t_Chk_ok : ∀ k, k < 3 → parseFieldDescriptor (F_Chk k).2.2.1 = some (t_Chk k) := by decide +kernel
theorem in_Chk : ∀ w ∈ u_ws "PicturePacker$Chunks" F_Chk 3, w ∈ TBL := by decide +kernel
def F_Pak : u_T := fun k => match k with
  | 0 => ("PicturePacker$Packer", "bytes", "[I", true)
  | 1 => ("PicturePacker$Packer", "out", "LPicturePacker$Output;", true)
  | 2 => ("PicturePacker$Packer", "finder", "LPicturePacker$RunFinder;", true)
  | 3 => ("PicturePacker$Packer", "singles", "I", false)
  | 4 => ("PicturePacker$Packer", "runs", "I", false)
  | _ => ("PicturePacker$Packer", "longest", "I", false)
def t_Pak : Nat → FieldType := fun k => match k with
  | 0 => .array .int
  | 1 => .object "PicturePacker$Output"
  | 2 => .object "PicturePacker$RunFinder"
  | 3 => .int
  | 4 => .int
  | _ => .int
theorem n_Pak : ∀ a, a < 6 → ∀ b, b < 6 → a ≠ b → (F_Pak a).2.1 ≠ (F_Pak b).2.1 := by decide +kernel
theorem t_Pak_ok : ∀ k, k < 6 → parseFieldDescriptor (F_Pak k).2.2.1 = some (t_Pak k) := by decide +kernel
theorem in_Pak : ∀ w ∈ u_ws "PicturePacker$Packer" F_Pak 6, w ∈ TBL := by decide +kernel
def F_Fin : u_T := fun k => match k with
  | 0 => ("PicturePacker$RunFinder", "bytes", "[I", true)
  | 1 => ("PicturePacker$RunFinder", "newest", "[I", true)
  | 2 => ("PicturePacker$RunFinder", "next", "[I", true)
  | 3 => ("PicturePacker$RunFinder", "chained", "I", false)
  | 4 => ("PicturePacker$RunFinder", "length", "I", false)
  | _ => ("PicturePacker$RunFinder", "distance", "I", false)
def t_Fin : Nat → FieldType := fun k => match k with
  | 0 => .array .int
  | 1 => .array .int
  | 2 => .array .int
  | 3 => .int
  | 4 => .int
  | _ => .int
theorem n_Fin : ∀ a, a < 6 → ∀ b, b < 6 → a ≠ b → (F_Fin a).2.1 ≠ (F_Fin b).2.1 := by decide +kernel
theorem t_Fin_ok : ∀ k, k < 6 → parseFieldDescriptor (F_Fin k).2.2.1 = some (t_Fin k) := by decide +kernel
theorem in_Fin : ∀ w ∈ u_ws "PicturePacker$RunFinder" F_Fin 6, w ∈ TBL := by decide +kernel
def F_Mod : u_T := fun k => match k with
  | 0 => ("PicturePackerModel", "thrown", "I", false)
  | 1 => ("PicturePackerModel", "width", "I", true)
  | 2 => ("PicturePackerModel", "height", "I", true)
  | 3 => ("PicturePackerModel", "colours", "[I", true)
  | 4 => ("PicturePackerModel", "rows", "[I", true)
  | 5 => ("PicturePackerModel", "many", "I", false)
  | 6 => ("PicturePackerModel", "file", "[I", true)
  | 7 => ("PicturePackerModel", "size", "I", false)
  | 8 => ("PicturePackerModel", "bit", "I", false)
  | 9 => ("PicturePackerModel", "single", "I", false)
  | 10 => ("PicturePackerModel", "runs", "I", false)
  | _ => ("PicturePackerModel", "longest", "I", false)
def t_Mod : Nat → FieldType := fun k => match k with
  | 0 => .int
  | 1 => .int
  | 2 => .int
  | 3 => .array .int
  | 4 => .array .int
  | 5 => .int
  | 6 => .array .int
  | 7 => .int
  | 8 => .int
  | 9 => .int
  | 10 => .int
  | _ => .int
theorem n_Mod : ∀ a, a < 12 → ∀ b, b < 12 → a ≠ b → (F_Mod a).2.1 ≠ (F_Mod b).2.1 := by decide +kernel
theorem t_Mod_ok : ∀ k, k < 12 → parseFieldDescriptor (F_Mod k).2.2.1 = some (t_Mod k) := by decide +kernel
theorem in_Mod : ∀ w ∈ u_ws "PicturePackerModel" F_Mod 12, w ∈ TBL := by decide +kernel
abbrev classes : List vw_C := [("PicturePacker", F_PP, 5), ("PicturePacker$Picture", F_Pic, 4), ("PicturePacker$Rows", F_Rows, 4), ("PicturePacker$Output", F_Out, 4), ("PicturePacker$Chunks", F_Chk, 3), ("PicturePacker$Packer", F_Pak, 6), ("PicturePacker$RunFinder", F_Fin, 6), ("PicturePackerModel", F_Mod, 12)]
/-- an array of ints at its place -/
abbrev e_ar (a n : Nat → Nat) (cI : ClassId) (k : Nat) (f : Nat → Int32) : Nat × va_E := (a k, .inl (cI, n k, .inl f))
abbrev e_PP (a : Nat → Nat) : Nat × va_E := (a 0, .inr (0, [.ref (a 1), .ref (a 2), .ref (a 3), .ref (a 4), .ref (a 5)]))
abbrev e_Pic (a : Nat → Nat) (Pic_width : Int32) (Pic_height : Int32) (Pic_stride : Int32) : Nat × va_E := (a 1, .inr (1, [.int Pic_width, .int Pic_height, .int Pic_stride, .ref (a 8)]))
abbrev e_Rows (a : Nat → Nat) (Rows_rowLength : Int32) : Nat × va_E := (a 2, .inr (2, [.ref (a 9), .ref (a 10), .ref (a 1), .int Rows_rowLength]))
abbrev e_Out (a : Nat → Nat) (Out_size : Int32) (Out_gathered : Int32) (Out_gatheredBits : Int32) : Nat × va_E := (a 3, .inr (3, [.ref (a 11), .int Out_size, .int Out_gathered, .int Out_gatheredBits]))
abbrev e_Chk (a : Nat → Nat) (Chk_start : Int32) : Nat × va_E := (a 4, .inr (4, [.ref (a 3), .ref (a 12), .int Chk_start]))
abbrev e_Pak (a : Nat → Nat) (Pak_singles : Int32) (Pak_runs : Int32) (Pak_longest : Int32) : Nat × va_E := (a 5, .inr (5, [.ref (a 9), .ref (a 3), .ref (a 6), .int Pak_singles, .int Pak_runs, .int Pak_longest]))
abbrev e_Fin (a : Nat → Nat) (Fin_chained : Int32) (Fin_length : Int32) (Fin_distance : Int32) : Nat × va_E := (a 6, .inr (6, [.ref (a 9), .ref (a 13), .ref (a 14), .int Fin_chained, .int Fin_length, .int Fin_distance]))
abbrev e_Mod (a : Nat → Nat) (Mod_thrown : Int32) (Mod_width : Int32) (Mod_height : Int32) (Mod_many : Int32) (Mod_size : Int32) (Mod_bit : Int32) (Mod_single : Int32) (Mod_runs : Int32) (Mod_longest : Int32) : Nat × va_E := (a 7, .inr (7, [.int Mod_thrown, .int Mod_width, .int Mod_height, .ref (a 15), .ref (a 16), .int Mod_many, .ref (a 17), .int Mod_size, .int Mod_bit, .int Mod_single, .int Mod_runs, .int Mod_longest]))
end
section
/-! the words of the tables, by their places -/
theorem tw0 : Cond.selects "PicturePacker$Rows" (⟨"PicturePacker$Rows", "bestFilter", "(I)I"⟩ : MethodName) (⟨"PicturePacker$Rows", "bestFilter", "(I)I"⟩ : MethodName) ∈ TBL := tb_in 0 (by decide +kernel) (by decide +kernel)
theorem tw1 : Cond.selects "PicturePacker$Rows" (⟨"PicturePacker$Rows", "cost", "(II)I"⟩ : MethodName) (⟨"PicturePacker$Rows", "cost", "(II)I"⟩ : MethodName) ∈ TBL := tb_in 1 (by decide +kernel) (by decide +kernel)
theorem tw2 : Cond.selects "PicturePacker$Rows" (⟨"PicturePacker$Rows", "lay", "(III)V"⟩ : MethodName) (⟨"PicturePacker$Rows", "lay", "(III)V"⟩ : MethodName) ∈ TBL := tb_in 2 (by decide +kernel) (by decide +kernel)
theorem tw3 : Cond.selects "PicturePacker" (⟨"PicturePacker", "addHeader", "()V"⟩ : MethodName) (⟨"PicturePacker", "addHeader", "()V"⟩ : MethodName) ∈ TBL := tb_in 3 (by decide +kernel) (by decide +kernel)
theorem tw4 : Cond.selects "PicturePacker$Chunks" (⟨"PicturePacker$Chunks", "crc", "(II)I"⟩ : MethodName) (⟨"PicturePacker$Chunks", "crc", "(II)I"⟩ : MethodName) ∈ TBL := tb_in 4 (by decide +kernel) (by decide +kernel)
theorem tw5 : Cond.selects "PicturePacker" (⟨"PicturePacker", "addData", "()V"⟩ : MethodName) (⟨"PicturePacker", "addData", "()V"⟩ : MethodName) ∈ TBL := tb_in 5 (by decide +kernel) (by decide +kernel)
theorem tw6 : Cond.selects "PicturePacker$Output" (⟨"PicturePacker$Output", "addBit", "(I)V"⟩ : MethodName) (⟨"PicturePacker$Output", "addBit", "(I)V"⟩ : MethodName) ∈ TBL := tb_in 6 (by decide +kernel) (by decide +kernel)
theorem tw7 : Cond.selects "PicturePacker$RunFinder" (⟨"PicturePacker$RunFinder", "chainUpTo", "(I)V"⟩ : MethodName) (⟨"PicturePacker$RunFinder", "chainUpTo", "(I)V"⟩ : MethodName) ∈ TBL := tb_in 7 (by decide +kernel) (by decide +kernel)
theorem tw8 : Cond.selects "PicturePacker$RunFinder" (⟨"PicturePacker$RunFinder", "mark", "(I)I"⟩ : MethodName) (⟨"PicturePacker$RunFinder", "mark", "(I)I"⟩ : MethodName) ∈ TBL := tb_in 8 (by decide +kernel) (by decide +kernel)
theorem tw9 : Cond.selects "PicturePacker$RunFinder" (⟨"PicturePacker$RunFinder", "sameBytes", "(III)I"⟩ : MethodName) (⟨"PicturePacker$RunFinder", "sameBytes", "(III)I"⟩ : MethodName) ∈ TBL := tb_in 9 (by decide +kernel) (by decide +kernel)
theorem tw10 : Cond.selects "PicturePacker$Packer" (⟨"PicturePacker$Packer", "addRun", "(II)V"⟩ : MethodName) (⟨"PicturePacker$Packer", "addRun", "(II)V"⟩ : MethodName) ∈ TBL := tb_in 10 (by decide +kernel) (by decide +kernel)
theorem tw11 : Cond.selects "PicturePacker$Packer" (⟨"PicturePacker$Packer", "addLength", "(I)V"⟩ : MethodName) (⟨"PicturePacker$Packer", "addLength", "(I)V"⟩ : MethodName) ∈ TBL := tb_in 11 (by decide +kernel) (by decide +kernel)
theorem tw12 : Cond.selects "PicturePacker$Packer" (⟨"PicturePacker$Packer", "addRunSign", "(I)V"⟩ : MethodName) (⟨"PicturePacker$Packer", "addRunSign", "(I)V"⟩ : MethodName) ∈ TBL := tb_in 12 (by decide +kernel) (by decide +kernel)
theorem tw13 : Cond.selects "PicturePacker$Packer" (⟨"PicturePacker$Packer", "addLongLength", "(I)V"⟩ : MethodName) (⟨"PicturePacker$Packer", "addLongLength", "(I)V"⟩ : MethodName) ∈ TBL := tb_in 13 (by decide +kernel) (by decide +kernel)
theorem tw14 : Cond.selects "PicturePacker$Packer" (⟨"PicturePacker$Packer", "addDistance", "(I)V"⟩ : MethodName) (⟨"PicturePacker$Packer", "addDistance", "(I)V"⟩ : MethodName) ∈ TBL := tb_in 14 (by decide +kernel) (by decide +kernel)
theorem tw15 : Cond.selects "PicturePacker$Packer" (⟨"PicturePacker$Packer", "addSingle", "(I)V"⟩ : MethodName) (⟨"PicturePacker$Packer", "addSingle", "(I)V"⟩ : MethodName) ∈ TBL := tb_in 15 (by decide +kernel) (by decide +kernel)
theorem tw16 : Cond.selects "PicturePackerModel" (⟨"PicturePackerModel", "in", "(II)Z"⟩ : MethodName) (⟨"PicturePackerModel", "in", "(II)Z"⟩ : MethodName) ∈ TBL := tb_in 16 (by decide +kernel) (by decide +kernel)
theorem tw17 : Cond.selects "PicturePackerModel" (⟨"PicturePackerModel", "makeRows", "()V"⟩ : MethodName) (⟨"PicturePackerModel", "makeRows", "()V"⟩ : MethodName) ∈ TBL := tb_in 17 (by decide +kernel) (by decide +kernel)
theorem tw18 : Cond.selects "PicturePackerModel" (⟨"PicturePackerModel", "sumOf", "(II)I"⟩ : MethodName) (⟨"PicturePackerModel", "sumOf", "(II)I"⟩ : MethodName) ∈ TBL := tb_in 18 (by decide +kernel) (by decide +kernel)
theorem tw19 : Cond.selects "PicturePackerModel" (⟨"PicturePackerModel", "filtered", "(III)I"⟩ : MethodName) (⟨"PicturePackerModel", "filtered", "(III)I"⟩ : MethodName) ∈ TBL := tb_in 19 (by decide +kernel) (by decide +kernel)
theorem tw20 : Cond.selects "PicturePackerModel" (⟨"PicturePackerModel", "byteOf", "(II)I"⟩ : MethodName) (⟨"PicturePackerModel", "byteOf", "(II)I"⟩ : MethodName) ∈ TBL := tb_in 20 (by decide +kernel) (by decide +kernel)
theorem tw21 : Cond.selects "PicturePackerModel" (⟨"PicturePackerModel", "name", "(IIII)V"⟩ : MethodName) (⟨"PicturePackerModel", "name", "(IIII)V"⟩ : MethodName) ∈ TBL := tb_in 21 (by decide +kernel) (by decide +kernel)
theorem tw22 : Cond.selects "PicturePackerModel" (⟨"PicturePackerModel", "one", "(I)V"⟩ : MethodName) (⟨"PicturePackerModel", "one", "(I)V"⟩ : MethodName) ∈ TBL := tb_in 22 (by decide +kernel) (by decide +kernel)
theorem tw23 : Cond.selects "PicturePackerModel" (⟨"PicturePackerModel", "four", "(I)V"⟩ : MethodName) (⟨"PicturePackerModel", "four", "(I)V"⟩ : MethodName) ∈ TBL := tb_in 23 (by decide +kernel) (by decide +kernel)
theorem tw24 : Cond.selects "PicturePackerModel" (⟨"PicturePackerModel", "check", "(I)V"⟩ : MethodName) (⟨"PicturePackerModel", "check", "(I)V"⟩ : MethodName) ∈ TBL := tb_in 24 (by decide +kernel) (by decide +kernel)
theorem tw25 : Cond.selects "PicturePackerModel" (⟨"PicturePackerModel", "pack", "()V"⟩ : MethodName) (⟨"PicturePackerModel", "pack", "()V"⟩ : MethodName) ∈ TBL := tb_in 25 (by decide +kernel) (by decide +kernel)
theorem tw26 : Cond.selects "PicturePackerModel" (⟨"PicturePackerModel", "next", "(I)V"⟩ : MethodName) (⟨"PicturePackerModel", "next", "(I)V"⟩ : MethodName) ∈ TBL := tb_in 26 (by decide +kernel) (by decide +kernel)
theorem tw27 : Cond.selects "PicturePackerModel" (⟨"PicturePackerModel", "run", "(III)I"⟩ : MethodName) (⟨"PicturePackerModel", "run", "(III)I"⟩ : MethodName) ∈ TBL := tb_in 27 (by decide +kernel) (by decide +kernel)
theorem tw28 : Cond.selects "PicturePackerModel" (⟨"PicturePackerModel", "length", "(I)V"⟩ : MethodName) (⟨"PicturePackerModel", "length", "(I)V"⟩ : MethodName) ∈ TBL := tb_in 28 (by decide +kernel) (by decide +kernel)
theorem tw29 : Cond.selects "PicturePackerModel" (⟨"PicturePackerModel", "sign", "(I)V"⟩ : MethodName) (⟨"PicturePackerModel", "sign", "(I)V"⟩ : MethodName) ∈ TBL := tb_in 29 (by decide +kernel) (by decide +kernel)
theorem tw30 : Cond.selects "PicturePackerModel" (⟨"PicturePackerModel", "highest", "(II)V"⟩ : MethodName) (⟨"PicturePackerModel", "highest", "(II)V"⟩ : MethodName) ∈ TBL := tb_in 30 (by decide +kernel) (by decide +kernel)
theorem tw31 : Cond.selects "PicturePackerModel" (⟨"PicturePackerModel", "lowest", "(II)V"⟩ : MethodName) (⟨"PicturePackerModel", "lowest", "(II)V"⟩ : MethodName) ∈ TBL := tb_in 31 (by decide +kernel) (by decide +kernel)
theorem tw32 : Cond.selects "PicturePackerModel" (⟨"PicturePackerModel", "distance", "(I)V"⟩ : MethodName) (⟨"PicturePackerModel", "distance", "(I)V"⟩ : MethodName) ∈ TBL := tb_in 32 (by decide +kernel) (by decide +kernel)
theorem tw33 : Cond.selects "PicturePackerModel" (⟨"PicturePackerModel", "sum", "()V"⟩ : MethodName) (⟨"PicturePackerModel", "sum", "()V"⟩ : MethodName) ∈ TBL := tb_in 33 (by decide +kernel) (by decide +kernel)
theorem tw35 : Cond.initialized "PicturePacker" ∈ TBL := tb_in 35 (by decide +kernel) (by decide +kernel)
theorem tw36 : Cond.initialized "PicturePacker$Picture" ∈ TBL := tb_in 36 (by decide +kernel) (by decide +kernel)
theorem tw37 : Cond.initialized "java/lang/Math" ∈ TBL := tb_in 37 (by decide +kernel) (by decide +kernel)
theorem tw38 : Cond.initialized "PicturePacker$Rows" ∈ TBL := tb_in 38 (by decide +kernel) (by decide +kernel)
theorem tw39 : Cond.initialized "java/util/Arrays" ∈ TBL := tb_in 39 (by decide +kernel) (by decide +kernel)
theorem tw40 : Cond.initialized "PicturePacker$Output" ∈ TBL := tb_in 40 (by decide +kernel) (by decide +kernel)
theorem tw41 : Cond.initialized "PicturePacker$Chunks" ∈ TBL := tb_in 41 (by decide +kernel) (by decide +kernel)
theorem tw42 : Cond.initialized "PicturePacker$Packer" ∈ TBL := tb_in 42 (by decide +kernel) (by decide +kernel)
theorem tw43 : Cond.initialized "PicturePacker$RunFinder" ∈ TBL := tb_in 43 (by decide +kernel) (by decide +kernel)
theorem tw44 : Cond.initialized "PicturePackerModel" ∈ TBL := tb_in 44 (by decide +kernel) (by decide +kernel)
theorem tw58 : Cond.methodLink "PicturePacker" 83 (⟨"java/lang/Math", "min", "(II)I"⟩ : MethodName) ∈ TBL := tb_in 58 (by decide +kernel) (by decide +kernel)
theorem tw59 : Cond.static (⟨"java/lang/Math", "min", "(II)I"⟩ : MethodName) ∈ TBL := tb_in 59 (by decide +kernel) (by decide +kernel)
theorem tw60 : Cond.code (⟨"java/lang/Math", "min", "(II)I"⟩ : MethodName) prog_10_method_69_code 2 (some .int) ∈ TBL := tb_in 60 (by decide +kernel) (by decide +kernel)
theorem tw61 : Cond.methodLink "PicturePacker" 73 (⟨"java/lang/Math", "max", "(II)I"⟩ : MethodName) ∈ TBL := tb_in 61 (by decide +kernel) (by decide +kernel)
theorem tw62 : Cond.static (⟨"java/lang/Math", "max", "(II)I"⟩ : MethodName) ∈ TBL := tb_in 62 (by decide +kernel) (by decide +kernel)
theorem tw63 : Cond.code (⟨"java/lang/Math", "max", "(II)I"⟩ : MethodName) prog_10_method_65_code 2 (some .int) ∈ TBL := tb_in 63 (by decide +kernel) (by decide +kernel)
theorem tw68 : Cond.fieldLink "PicturePacker$Picture" 9 "PicturePacker$Picture" "width" "I" ∈ TBL := tb_in 68 (by decide +kernel) (by decide +kernel)
theorem tw70 : Cond.fieldLink "PicturePacker" 79 "PicturePacker$Picture" "width" "I" ∈ TBL := tb_in 70 (by decide +kernel) (by decide +kernel)
theorem tw71 : Cond.fieldLink "PicturePacker$Picture" 15 "PicturePacker$Picture" "height" "I" ∈ TBL := tb_in 71 (by decide +kernel) (by decide +kernel)
theorem tw73 : Cond.fieldLink "PicturePacker" 131 "PicturePacker$Picture" "height" "I" ∈ TBL := tb_in 73 (by decide +kernel) (by decide +kernel)
theorem tw74 : Cond.fieldLink "PicturePacker$Picture" 18 "PicturePacker$Picture" "stride" "I" ∈ TBL := tb_in 74 (by decide +kernel) (by decide +kernel)
theorem tw75 : Cond.fieldLink "PicturePacker$Picture" 21 "PicturePacker$Picture" "bytes" "[I" ∈ TBL := tb_in 75 (by decide +kernel) (by decide +kernel)
theorem tw93 : Cond.static (⟨"java/util/Arrays", "fill", "([II)V"⟩ : MethodName) ∈ TBL := tb_in 93 (by decide +kernel) (by decide +kernel)
theorem tw94 : Cond.code (⟨"java/util/Arrays", "fill", "([II)V"⟩ : MethodName) prog_11_method_103_code 4 none ∈ TBL := tb_in 94 (by decide +kernel) (by decide +kernel)
theorem tw95 : Cond.fieldLink "PicturePacker$Rows" 27 "PicturePacker$Rows" "bytes" "[I" ∈ TBL := tb_in 95 (by decide +kernel) (by decide +kernel)
theorem tw97 : Cond.fieldLink "PicturePacker$Rows" 31 "PicturePacker$Rows" "filters" "[I" ∈ TBL := tb_in 97 (by decide +kernel) (by decide +kernel)
theorem tw98 : Cond.fieldLink "PicturePacker" 119 "PicturePacker$Rows" "filters" "[I" ∈ TBL := tb_in 98 (by decide +kernel) (by decide +kernel)
theorem tw99 : Cond.fieldLink "PicturePacker$Rows" 9 "PicturePacker$Rows" "picture" "LPicturePacker$Picture;" ∈ TBL := tb_in 99 (by decide +kernel) (by decide +kernel)
theorem tw100 : Cond.fieldLink "PicturePacker$Rows" 21 "PicturePacker$Rows" "rowLength" "I" ∈ TBL := tb_in 100 (by decide +kernel) (by decide +kernel)
theorem tw119 : Cond.fieldLink "PicturePacker$Output" 7 "PicturePacker$Output" "bytes" "[I" ∈ TBL := tb_in 119 (by decide +kernel) (by decide +kernel)
theorem tw120 : Cond.fieldLink "PicturePacker$Chunks" 48 "PicturePacker$Output" "bytes" "[I" ∈ TBL := tb_in 120 (by decide +kernel) (by decide +kernel)
theorem tw121 : Cond.fieldLink "PicturePacker" 118 "PicturePacker$Output" "bytes" "[I" ∈ TBL := tb_in 121 (by decide +kernel) (by decide +kernel)
theorem tw122 : Cond.fieldLink "PicturePacker$Output" 13 "PicturePacker$Output" "size" "I" ∈ TBL := tb_in 122 (by decide +kernel) (by decide +kernel)
theorem tw123 : Cond.fieldLink "PicturePacker$Chunks" 22 "PicturePacker$Output" "size" "I" ∈ TBL := tb_in 123 (by decide +kernel) (by decide +kernel)
theorem tw124 : Cond.fieldLink "PicturePacker" 115 "PicturePacker$Output" "size" "I" ∈ TBL := tb_in 124 (by decide +kernel) (by decide +kernel)
theorem tw125 : Cond.fieldLink "PicturePacker$Output" 17 "PicturePacker$Output" "gathered" "I" ∈ TBL := tb_in 125 (by decide +kernel) (by decide +kernel)
theorem tw126 : Cond.fieldLink "PicturePacker$Output" 20 "PicturePacker$Output" "gatheredBits" "I" ∈ TBL := tb_in 126 (by decide +kernel) (by decide +kernel)
theorem tw145 : Cond.constant "PicturePacker$Chunks" 21 (-306674912) ∈ TBL := tb_in 145 (by decide +kernel) (by decide +kernel)
theorem tw146 : Cond.fieldLink "PicturePacker$Chunks" 7 "PicturePacker$Chunks" "file" "LPicturePacker$Output;" ∈ TBL := tb_in 146 (by decide +kernel) (by decide +kernel)
theorem tw147 : Cond.fieldLink "PicturePacker$Chunks" 13 "PicturePacker$Chunks" "crcOfByte" "[I" ∈ TBL := tb_in 147 (by decide +kernel) (by decide +kernel)
theorem tw148 : Cond.fieldLink "PicturePacker$Chunks" 28 "PicturePacker$Chunks" "start" "I" ∈ TBL := tb_in 148 (by decide +kernel) (by decide +kernel)
theorem tw168 : Cond.fieldLink "PicturePacker$RunFinder" 9 "PicturePacker$RunFinder" "bytes" "[I" ∈ TBL := tb_in 168 (by decide +kernel) (by decide +kernel)
theorem tw169 : Cond.fieldLink "PicturePacker$RunFinder" 15 "PicturePacker$RunFinder" "newest" "[I" ∈ TBL := tb_in 169 (by decide +kernel) (by decide +kernel)
theorem tw170 : Cond.fieldLink "PicturePacker$RunFinder" 18 "PicturePacker$RunFinder" "next" "[I" ∈ TBL := tb_in 170 (by decide +kernel) (by decide +kernel)
theorem tw171 : Cond.fieldLink "PicturePacker$RunFinder" 27 "PicturePacker$RunFinder" "chained" "I" ∈ TBL := tb_in 171 (by decide +kernel) (by decide +kernel)
theorem tw172 : Cond.fieldLink "PicturePacker$Packer" 49 "PicturePacker$RunFinder" "length" "I" ∈ TBL := tb_in 172 (by decide +kernel) (by decide +kernel)
theorem tw173 : Cond.fieldLink "PicturePacker$RunFinder" 31 "PicturePacker$RunFinder" "length" "I" ∈ TBL := tb_in 173 (by decide +kernel) (by decide +kernel)
theorem tw174 : Cond.fieldLink "PicturePacker$Packer" 52 "PicturePacker$RunFinder" "distance" "I" ∈ TBL := tb_in 174 (by decide +kernel) (by decide +kernel)
theorem tw175 : Cond.fieldLink "PicturePacker$RunFinder" 34 "PicturePacker$RunFinder" "distance" "I" ∈ TBL := tb_in 175 (by decide +kernel) (by decide +kernel)
theorem tw189 : Cond.fieldLink "PicturePacker$Packer" 7 "PicturePacker$Packer" "bytes" "[I" ∈ TBL := tb_in 189 (by decide +kernel) (by decide +kernel)
theorem tw190 : Cond.fieldLink "PicturePacker$Packer" 13 "PicturePacker$Packer" "out" "LPicturePacker$Output;" ∈ TBL := tb_in 190 (by decide +kernel) (by decide +kernel)
theorem tw191 : Cond.fieldLink "PicturePacker$Packer" 22 "PicturePacker$Packer" "finder" "LPicturePacker$RunFinder;" ∈ TBL := tb_in 191 (by decide +kernel) (by decide +kernel)
theorem tw192 : Cond.fieldLink "PicturePacker$Packer" 26 "PicturePacker$Packer" "singles" "I" ∈ TBL := tb_in 192 (by decide +kernel) (by decide +kernel)
theorem tw193 : Cond.fieldLink "PicturePacker" 122 "PicturePacker$Packer" "singles" "I" ∈ TBL := tb_in 193 (by decide +kernel) (by decide +kernel)
theorem tw194 : Cond.fieldLink "PicturePacker$Packer" 30 "PicturePacker$Packer" "runs" "I" ∈ TBL := tb_in 194 (by decide +kernel) (by decide +kernel)
theorem tw195 : Cond.fieldLink "PicturePacker" 125 "PicturePacker$Packer" "runs" "I" ∈ TBL := tb_in 195 (by decide +kernel) (by decide +kernel)
theorem tw196 : Cond.fieldLink "PicturePacker$Packer" 33 "PicturePacker$Packer" "longest" "I" ∈ TBL := tb_in 196 (by decide +kernel) (by decide +kernel)
theorem tw197 : Cond.fieldLink "PicturePacker" 128 "PicturePacker$Packer" "longest" "I" ∈ TBL := tb_in 197 (by decide +kernel) (by decide +kernel)
theorem tw211 : Cond.fieldLink "PicturePacker" 18 "PicturePacker" "picture" "LPicturePacker$Picture;" ∈ TBL := tb_in 211 (by decide +kernel) (by decide +kernel)
theorem tw212 : Cond.fieldLink "PicturePacker" 27 "PicturePacker" "rows" "LPicturePacker$Rows;" ∈ TBL := tb_in 212 (by decide +kernel) (by decide +kernel)
theorem tw213 : Cond.fieldLink "PicturePacker" 43 "PicturePacker" "file" "LPicturePacker$Output;" ∈ TBL := tb_in 213 (by decide +kernel) (by decide +kernel)
theorem tw214 : Cond.fieldLink "PicturePacker" 52 "PicturePacker" "chunks" "LPicturePacker$Chunks;" ∈ TBL := tb_in 214 (by decide +kernel) (by decide +kernel)
theorem tw215 : Cond.fieldLink "PicturePacker" 61 "PicturePacker" "packer" "LPicturePacker$Packer;" ∈ TBL := tb_in 215 (by decide +kernel) (by decide +kernel)
theorem tw231 : Cond.methodLink "PicturePacker" 65 (⟨"PicturePacker$Picture", "has", "(II)Z"⟩ : MethodName) ∈ TBL := tb_in 231 (by decide +kernel) (by decide +kernel)
theorem tw232 : Cond.instanceMethod (⟨"PicturePacker$Picture", "has", "(II)Z"⟩ : MethodName) ∈ TBL := tb_in 232 (by decide +kernel) (by decide +kernel)
theorem tw233 : Cond.selects "PicturePacker$Picture" (⟨"PicturePacker$Picture", "has", "(II)Z"⟩ : MethodName) (⟨"PicturePacker$Picture", "has", "(II)Z"⟩ : MethodName) ∈ TBL := tb_in 233 (by decide +kernel) (by decide +kernel)
theorem tw234 : Cond.code (⟨"PicturePacker$Picture", "has", "(II)Z"⟩ : MethodName) prog_5_method_2_code 3 (some .boolean) ∈ TBL := tb_in 234 (by decide +kernel) (by decide +kernel)
theorem tw235 : Cond.methodLink "PicturePacker" 69 (⟨"PicturePacker$Picture", "paint", "(III)V"⟩ : MethodName) ∈ TBL := tb_in 235 (by decide +kernel) (by decide +kernel)
theorem tw236 : Cond.instanceMethod (⟨"PicturePacker$Picture", "paint", "(III)V"⟩ : MethodName) ∈ TBL := tb_in 236 (by decide +kernel) (by decide +kernel)
theorem tw237 : Cond.selects "PicturePacker$Picture" (⟨"PicturePacker$Picture", "paint", "(III)V"⟩ : MethodName) (⟨"PicturePacker$Picture", "paint", "(III)V"⟩ : MethodName) ∈ TBL := tb_in 237 (by decide +kernel) (by decide +kernel)
theorem tw238 : Cond.code (⟨"PicturePacker$Picture", "paint", "(III)V"⟩ : MethodName) prog_5_method_4_code 5 none ∈ TBL := tb_in 238 (by decide +kernel) (by decide +kernel)
theorem tw239 : Cond.methodLink "PicturePacker$Picture" 25 (⟨"PicturePacker$Picture", "placeOf", "(II)I"⟩ : MethodName) ∈ TBL := tb_in 239 (by decide +kernel) (by decide +kernel)
theorem tw240 : Cond.instanceMethod (⟨"PicturePacker$Picture", "placeOf", "(II)I"⟩ : MethodName) ∈ TBL := tb_in 240 (by decide +kernel) (by decide +kernel)
theorem tw241 : Cond.selects "PicturePacker$Picture" (⟨"PicturePacker$Picture", "placeOf", "(II)I"⟩ : MethodName) (⟨"PicturePacker$Picture", "placeOf", "(II)I"⟩ : MethodName) ∈ TBL := tb_in 241 (by decide +kernel) (by decide +kernel)
theorem tw242 : Cond.code (⟨"PicturePacker$Picture", "placeOf", "(II)I"⟩ : MethodName) prog_5_method_3_code 3 (some .int) ∈ TBL := tb_in 242 (by decide +kernel) (by decide +kernel)
theorem tw251 : Cond.methodLink "PicturePacker" 86 (⟨"PicturePacker$Picture", "colourOf", "(II)I"⟩ : MethodName) ∈ TBL := tb_in 251 (by decide +kernel) (by decide +kernel)
theorem tw252 : Cond.instanceMethod (⟨"PicturePacker$Picture", "colourOf", "(II)I"⟩ : MethodName) ∈ TBL := tb_in 252 (by decide +kernel) (by decide +kernel)
theorem tw253 : Cond.selects "PicturePacker$Picture" (⟨"PicturePacker$Picture", "colourOf", "(II)I"⟩ : MethodName) (⟨"PicturePacker$Picture", "colourOf", "(II)I"⟩ : MethodName) ∈ TBL := tb_in 253 (by decide +kernel) (by decide +kernel)
theorem tw254 : Cond.code (⟨"PicturePacker$Picture", "colourOf", "(II)I"⟩ : MethodName) prog_5_method_5_code 4 (some .int) ∈ TBL := tb_in 254 (by decide +kernel) (by decide +kernel)
theorem tw259 : Cond.methodLink "PicturePacker" 89 (⟨"PicturePacker$Rows", "make", "()V"⟩ : MethodName) ∈ TBL := tb_in 259 (by decide +kernel) (by decide +kernel)
theorem tw260 : Cond.instanceMethod (⟨"PicturePacker$Rows", "make", "()V"⟩ : MethodName) ∈ TBL := tb_in 260 (by decide +kernel) (by decide +kernel)
theorem tw261 : Cond.selects "PicturePacker$Rows" (⟨"PicturePacker$Rows", "make", "()V"⟩ : MethodName) (⟨"PicturePacker$Rows", "make", "()V"⟩ : MethodName) ∈ TBL := tb_in 261 (by decide +kernel) (by decide +kernel)
theorem tw262 : Cond.code (⟨"PicturePacker$Rows", "make", "()V"⟩ : MethodName) prog_6_method_2_code 3 none ∈ TBL := tb_in 262 (by decide +kernel) (by decide +kernel)
theorem tw263 : Cond.methodLink "PicturePacker$Rows" 40 (⟨"PicturePacker$Picture", "placeOf", "(II)I"⟩ : MethodName) ∈ TBL := tb_in 263 (by decide +kernel) (by decide +kernel)
theorem tw264 : Cond.methodLink "PicturePacker$Rows" 44 (⟨"PicturePacker$Rows", "bestFilter", "(I)I"⟩ : MethodName) ∈ TBL := tb_in 264 (by decide +kernel) (by decide +kernel)
theorem tw266 : Cond.instanceMethod (⟨"PicturePacker$Rows", "bestFilter", "(I)I"⟩ : MethodName) ∈ TBL := tb_in 266 (by decide +kernel) (by decide +kernel)
theorem tw267 : Cond.code (⟨"PicturePacker$Rows", "bestFilter", "(I)I"⟩ : MethodName) prog_6_method_3_code 6 (some .int) ∈ TBL := tb_in 267 (by decide +kernel) (by decide +kernel)
theorem tw268 : Cond.methodLink "PicturePacker$Rows" 52 (⟨"PicturePacker$Rows", "cost", "(II)I"⟩ : MethodName) ∈ TBL := tb_in 268 (by decide +kernel) (by decide +kernel)
theorem tw270 : Cond.instanceMethod (⟨"PicturePacker$Rows", "cost", "(II)I"⟩ : MethodName) ∈ TBL := tb_in 270 (by decide +kernel) (by decide +kernel)
theorem tw271 : Cond.code (⟨"PicturePacker$Rows", "cost", "(II)I"⟩ : MethodName) prog_6_method_4_code 6 (some .int) ∈ TBL := tb_in 271 (by decide +kernel) (by decide +kernel)
theorem tw272 : Cond.methodLink "PicturePacker$Rows" 55 (⟨"PicturePacker$Picture", "lessGuess", "(II)I"⟩ : MethodName) ∈ TBL := tb_in 272 (by decide +kernel) (by decide +kernel)
theorem tw273 : Cond.instanceMethod (⟨"PicturePacker$Picture", "lessGuess", "(II)I"⟩ : MethodName) ∈ TBL := tb_in 273 (by decide +kernel) (by decide +kernel)
theorem tw274 : Cond.selects "PicturePacker$Picture" (⟨"PicturePacker$Picture", "lessGuess", "(II)I"⟩ : MethodName) (⟨"PicturePacker$Picture", "lessGuess", "(II)I"⟩ : MethodName) ∈ TBL := tb_in 274 (by decide +kernel) (by decide +kernel)
theorem tw275 : Cond.code (⟨"PicturePacker$Picture", "lessGuess", "(II)I"⟩ : MethodName) prog_5_method_6_code 6 (some .int) ∈ TBL := tb_in 275 (by decide +kernel) (by decide +kernel)
theorem tw276 : Cond.methodLink "PicturePacker$Picture" 29 (⟨"PicturePacker$Picture", "guess", "(IIII)I"⟩ : MethodName) ∈ TBL := tb_in 276 (by decide +kernel) (by decide +kernel)
theorem tw277 : Cond.static (⟨"PicturePacker$Picture", "guess", "(IIII)I"⟩ : MethodName) ∈ TBL := tb_in 277 (by decide +kernel) (by decide +kernel)
theorem tw278 : Cond.code (⟨"PicturePacker$Picture", "guess", "(IIII)I"⟩ : MethodName) prog_5_method_7_code 4 (some .int) ∈ TBL := tb_in 278 (by decide +kernel) (by decide +kernel)
theorem tw279 : Cond.methodLink "PicturePacker$Picture" 33 (⟨"PicturePacker$Picture", "nearest", "(III)I"⟩ : MethodName) ∈ TBL := tb_in 279 (by decide +kernel) (by decide +kernel)
theorem tw280 : Cond.static (⟨"PicturePacker$Picture", "nearest", "(III)I"⟩ : MethodName) ∈ TBL := tb_in 280 (by decide +kernel) (by decide +kernel)
theorem tw281 : Cond.code (⟨"PicturePacker$Picture", "nearest", "(III)I"⟩ : MethodName) prog_5_method_8_code 7 (some .int) ∈ TBL := tb_in 281 (by decide +kernel) (by decide +kernel)
theorem tw282 : Cond.methodLink "PicturePacker$Picture" 37 (⟨"java/lang/Math", "abs", "(I)I"⟩ : MethodName) ∈ TBL := tb_in 282 (by decide +kernel) (by decide +kernel)
theorem tw283 : Cond.static (⟨"java/lang/Math", "abs", "(I)I"⟩ : MethodName) ∈ TBL := tb_in 283 (by decide +kernel) (by decide +kernel)
theorem tw284 : Cond.code (⟨"java/lang/Math", "abs", "(I)I"⟩ : MethodName) prog_10_method_59_code 1 (some .int) ∈ TBL := tb_in 284 (by decide +kernel) (by decide +kernel)
theorem tw285 : Cond.methodLink "PicturePacker$Rows" 58 (⟨"java/lang/Math", "min", "(II)I"⟩ : MethodName) ∈ TBL := tb_in 285 (by decide +kernel) (by decide +kernel)
theorem tw286 : Cond.methodLink "PicturePacker$Rows" 48 (⟨"PicturePacker$Rows", "lay", "(III)V"⟩ : MethodName) ∈ TBL := tb_in 286 (by decide +kernel) (by decide +kernel)
theorem tw288 : Cond.instanceMethod (⟨"PicturePacker$Rows", "lay", "(III)V"⟩ : MethodName) ∈ TBL := tb_in 288 (by decide +kernel) (by decide +kernel)
theorem tw289 : Cond.code (⟨"PicturePacker$Rows", "lay", "(III)V"⟩ : MethodName) prog_6_method_5_code 6 none ∈ TBL := tb_in 289 (by decide +kernel) (by decide +kernel)
theorem tw290 : Cond.methodLink "PicturePacker" 92 (⟨"PicturePacker$Output", "restart", "()V"⟩ : MethodName) ∈ TBL := tb_in 290 (by decide +kernel) (by decide +kernel)
theorem tw291 : Cond.instanceMethod (⟨"PicturePacker$Output", "restart", "()V"⟩ : MethodName) ∈ TBL := tb_in 291 (by decide +kernel) (by decide +kernel)
theorem tw292 : Cond.selects "PicturePacker$Output" (⟨"PicturePacker$Output", "restart", "()V"⟩ : MethodName) (⟨"PicturePacker$Output", "restart", "()V"⟩ : MethodName) ∈ TBL := tb_in 292 (by decide +kernel) (by decide +kernel)
theorem tw293 : Cond.code (⟨"PicturePacker$Output", "restart", "()V"⟩ : MethodName) prog_3_method_3_code 1 none ∈ TBL := tb_in 293 (by decide +kernel) (by decide +kernel)
theorem tw294 : Cond.fieldLink "PicturePacker" 95 "PicturePacker" "SIGNATURE" "[I" ∈ TBL := tb_in 294 (by decide +kernel) (by decide +kernel)
theorem tw296 : Cond.methodLink "PicturePacker" 98 (⟨"PicturePacker$Output", "addAll", "([I)V"⟩ : MethodName) ∈ TBL := tb_in 296 (by decide +kernel) (by decide +kernel)
theorem tw297 : Cond.instanceMethod (⟨"PicturePacker$Output", "addAll", "([I)V"⟩ : MethodName) ∈ TBL := tb_in 297 (by decide +kernel) (by decide +kernel)
theorem tw298 : Cond.selects "PicturePacker$Output" (⟨"PicturePacker$Output", "addAll", "([I)V"⟩ : MethodName) (⟨"PicturePacker$Output", "addAll", "([I)V"⟩ : MethodName) ∈ TBL := tb_in 298 (by decide +kernel) (by decide +kernel)
theorem tw299 : Cond.code (⟨"PicturePacker$Output", "addAll", "([I)V"⟩ : MethodName) prog_3_method_5_code 3 none ∈ TBL := tb_in 299 (by decide +kernel) (by decide +kernel)
theorem tw300 : Cond.methodLink "PicturePacker$Output" 23 (⟨"PicturePacker$Output", "addByte", "(I)V"⟩ : MethodName) ∈ TBL := tb_in 300 (by decide +kernel) (by decide +kernel)
theorem tw301 : Cond.instanceMethod (⟨"PicturePacker$Output", "addByte", "(I)V"⟩ : MethodName) ∈ TBL := tb_in 301 (by decide +kernel) (by decide +kernel)
theorem tw302 : Cond.selects "PicturePacker$Output" (⟨"PicturePacker$Output", "addByte", "(I)V"⟩ : MethodName) (⟨"PicturePacker$Output", "addByte", "(I)V"⟩ : MethodName) ∈ TBL := tb_in 302 (by decide +kernel) (by decide +kernel)
theorem tw303 : Cond.code (⟨"PicturePacker$Output", "addByte", "(I)V"⟩ : MethodName) prog_3_method_4_code 2 none ∈ TBL := tb_in 303 (by decide +kernel) (by decide +kernel)
theorem tw304 : Cond.methodLink "PicturePacker" 102 (⟨"PicturePacker", "addHeader", "()V"⟩ : MethodName) ∈ TBL := tb_in 304 (by decide +kernel) (by decide +kernel)
theorem tw306 : Cond.instanceMethod (⟨"PicturePacker", "addHeader", "()V"⟩ : MethodName) ∈ TBL := tb_in 306 (by decide +kernel) (by decide +kernel)
theorem tw307 : Cond.code (⟨"PicturePacker", "addHeader", "()V"⟩ : MethodName) prog_1_method_10_code 1 none ∈ TBL := tb_in 307 (by decide +kernel) (by decide +kernel)
theorem tw308 : Cond.constant "PicturePacker" 134 1229472850 ∈ TBL := tb_in 308 (by decide +kernel) (by decide +kernel)
theorem tw309 : Cond.methodLink "PicturePacker" 109 (⟨"PicturePacker$Chunks", "open", "(I)V"⟩ : MethodName) ∈ TBL := tb_in 309 (by decide +kernel) (by decide +kernel)
theorem tw310 : Cond.instanceMethod (⟨"PicturePacker$Chunks", "open", "(I)V"⟩ : MethodName) ∈ TBL := tb_in 310 (by decide +kernel) (by decide +kernel)
theorem tw311 : Cond.selects "PicturePacker$Chunks" (⟨"PicturePacker$Chunks", "open", "(I)V"⟩ : MethodName) (⟨"PicturePacker$Chunks", "open", "(I)V"⟩ : MethodName) ∈ TBL := tb_in 311 (by decide +kernel) (by decide +kernel)
theorem tw312 : Cond.code (⟨"PicturePacker$Chunks", "open", "(I)V"⟩ : MethodName) prog_2_method_3_code 2 none ∈ TBL := tb_in 312 (by decide +kernel) (by decide +kernel)
theorem tw313 : Cond.methodLink "PicturePacker$Chunks" 31 (⟨"PicturePacker$Output", "addNumber", "(I)V"⟩ : MethodName) ∈ TBL := tb_in 313 (by decide +kernel) (by decide +kernel)
theorem tw314 : Cond.instanceMethod (⟨"PicturePacker$Output", "addNumber", "(I)V"⟩ : MethodName) ∈ TBL := tb_in 314 (by decide +kernel) (by decide +kernel)
theorem tw315 : Cond.selects "PicturePacker$Output" (⟨"PicturePacker$Output", "addNumber", "(I)V"⟩ : MethodName) (⟨"PicturePacker$Output", "addNumber", "(I)V"⟩ : MethodName) ∈ TBL := tb_in 315 (by decide +kernel) (by decide +kernel)
theorem tw316 : Cond.code (⟨"PicturePacker$Output", "addNumber", "(I)V"⟩ : MethodName) prog_3_method_6_code 3 none ∈ TBL := tb_in 316 (by decide +kernel) (by decide +kernel)
theorem tw317 : Cond.methodLink "PicturePacker" 135 (⟨"PicturePacker$Output", "addNumber", "(I)V"⟩ : MethodName) ∈ TBL := tb_in 317 (by decide +kernel) (by decide +kernel)
theorem tw318 : Cond.fieldLink "PicturePacker" 138 "PicturePacker" "HEADER_END" "[I" ∈ TBL := tb_in 318 (by decide +kernel) (by decide +kernel)
theorem tw320 : Cond.methodLink "PicturePacker" 112 (⟨"PicturePacker$Chunks", "close", "()V"⟩ : MethodName) ∈ TBL := tb_in 320 (by decide +kernel) (by decide +kernel)
theorem tw321 : Cond.instanceMethod (⟨"PicturePacker$Chunks", "close", "()V"⟩ : MethodName) ∈ TBL := tb_in 321 (by decide +kernel) (by decide +kernel)
theorem tw322 : Cond.selects "PicturePacker$Chunks" (⟨"PicturePacker$Chunks", "close", "()V"⟩ : MethodName) (⟨"PicturePacker$Chunks", "close", "()V"⟩ : MethodName) ∈ TBL := tb_in 322 (by decide +kernel) (by decide +kernel)
theorem tw323 : Cond.code (⟨"PicturePacker$Chunks", "close", "()V"⟩ : MethodName) prog_2_method_4_code 1 none ∈ TBL := tb_in 323 (by decide +kernel) (by decide +kernel)
theorem tw324 : Cond.methodLink "PicturePacker$Chunks" 35 (⟨"PicturePacker$Output", "changeNumber", "(II)V"⟩ : MethodName) ∈ TBL := tb_in 324 (by decide +kernel) (by decide +kernel)
theorem tw325 : Cond.instanceMethod (⟨"PicturePacker$Output", "changeNumber", "(II)V"⟩ : MethodName) ∈ TBL := tb_in 325 (by decide +kernel) (by decide +kernel)
theorem tw326 : Cond.selects "PicturePacker$Output" (⟨"PicturePacker$Output", "changeNumber", "(II)V"⟩ : MethodName) (⟨"PicturePacker$Output", "changeNumber", "(II)V"⟩ : MethodName) ∈ TBL := tb_in 326 (by decide +kernel) (by decide +kernel)
theorem tw327 : Cond.code (⟨"PicturePacker$Output", "changeNumber", "(II)V"⟩ : MethodName) prog_3_method_7_code 4 none ∈ TBL := tb_in 327 (by decide +kernel) (by decide +kernel)
theorem tw328 : Cond.methodLink "PicturePacker$Chunks" 39 (⟨"PicturePacker$Chunks", "crc", "(II)I"⟩ : MethodName) ∈ TBL := tb_in 328 (by decide +kernel) (by decide +kernel)
theorem tw330 : Cond.instanceMethod (⟨"PicturePacker$Chunks", "crc", "(II)I"⟩ : MethodName) ∈ TBL := tb_in 330 (by decide +kernel) (by decide +kernel)
theorem tw331 : Cond.code (⟨"PicturePacker$Chunks", "crc", "(II)I"⟩ : MethodName) prog_2_method_5_code 5 (some .int) ∈ TBL := tb_in 331 (by decide +kernel) (by decide +kernel)
theorem tw332 : Cond.methodLink "PicturePacker$Chunks" 43 (⟨"java/lang/Math", "max", "(II)I"⟩ : MethodName) ∈ TBL := tb_in 332 (by decide +kernel) (by decide +kernel)
theorem tw333 : Cond.methodLink "PicturePacker" 105 (⟨"PicturePacker", "addData", "()V"⟩ : MethodName) ∈ TBL := tb_in 333 (by decide +kernel) (by decide +kernel)
theorem tw335 : Cond.instanceMethod (⟨"PicturePacker", "addData", "()V"⟩ : MethodName) ∈ TBL := tb_in 335 (by decide +kernel) (by decide +kernel)
theorem tw336 : Cond.code (⟨"PicturePacker", "addData", "()V"⟩ : MethodName) prog_1_method_11_code 1 none ∈ TBL := tb_in 336 (by decide +kernel) (by decide +kernel)
theorem tw337 : Cond.constant "PicturePacker" 141 1229209940 ∈ TBL := tb_in 337 (by decide +kernel) (by decide +kernel)
theorem tw338 : Cond.methodLink "PicturePacker" 142 (⟨"PicturePacker$Output", "addByte", "(I)V"⟩ : MethodName) ∈ TBL := tb_in 338 (by decide +kernel) (by decide +kernel)
theorem tw339 : Cond.methodLink "PicturePacker" 145 (⟨"PicturePacker$Packer", "pack", "()V"⟩ : MethodName) ∈ TBL := tb_in 339 (by decide +kernel) (by decide +kernel)
theorem tw340 : Cond.instanceMethod (⟨"PicturePacker$Packer", "pack", "()V"⟩ : MethodName) ∈ TBL := tb_in 340 (by decide +kernel) (by decide +kernel)
theorem tw341 : Cond.selects "PicturePacker$Packer" (⟨"PicturePacker$Packer", "pack", "()V"⟩ : MethodName) (⟨"PicturePacker$Packer", "pack", "()V"⟩ : MethodName) ∈ TBL := tb_in 341 (by decide +kernel) (by decide +kernel)
theorem tw342 : Cond.code (⟨"PicturePacker$Packer", "pack", "()V"⟩ : MethodName) prog_4_method_2_code 2 none ∈ TBL := tb_in 342 (by decide +kernel) (by decide +kernel)
theorem tw343 : Cond.methodLink "PicturePacker$Packer" 36 (⟨"PicturePacker$RunFinder", "restart", "()V"⟩ : MethodName) ∈ TBL := tb_in 343 (by decide +kernel) (by decide +kernel)
theorem tw344 : Cond.instanceMethod (⟨"PicturePacker$RunFinder", "restart", "()V"⟩ : MethodName) ∈ TBL := tb_in 344 (by decide +kernel) (by decide +kernel)
theorem tw345 : Cond.selects "PicturePacker$RunFinder" (⟨"PicturePacker$RunFinder", "restart", "()V"⟩ : MethodName) (⟨"PicturePacker$RunFinder", "restart", "()V"⟩ : MethodName) ∈ TBL := tb_in 345 (by decide +kernel) (by decide +kernel)
theorem tw346 : Cond.code (⟨"PicturePacker$RunFinder", "restart", "()V"⟩ : MethodName) prog_7_method_2_code 1 none ∈ TBL := tb_in 346 (by decide +kernel) (by decide +kernel)
theorem tw347 : Cond.methodLink "PicturePacker$RunFinder" 21 (⟨"java/util/Arrays", "fill", "([II)V"⟩ : MethodName) ∈ TBL := tb_in 347 (by decide +kernel) (by decide +kernel)
theorem tw348 : Cond.methodLink "PicturePacker$Packer" 39 (⟨"PicturePacker$Output", "addBitsLowestFirst", "(II)V"⟩ : MethodName) ∈ TBL := tb_in 348 (by decide +kernel) (by decide +kernel)
theorem tw349 : Cond.instanceMethod (⟨"PicturePacker$Output", "addBitsLowestFirst", "(II)V"⟩ : MethodName) ∈ TBL := tb_in 349 (by decide +kernel) (by decide +kernel)
theorem tw350 : Cond.selects "PicturePacker$Output" (⟨"PicturePacker$Output", "addBitsLowestFirst", "(II)V"⟩ : MethodName) (⟨"PicturePacker$Output", "addBitsLowestFirst", "(II)V"⟩ : MethodName) ∈ TBL := tb_in 350 (by decide +kernel) (by decide +kernel)
theorem tw351 : Cond.code (⟨"PicturePacker$Output", "addBitsLowestFirst", "(II)V"⟩ : MethodName) prog_3_method_9_code 4 none ∈ TBL := tb_in 351 (by decide +kernel) (by decide +kernel)
theorem tw352 : Cond.methodLink "PicturePacker$Output" 27 (⟨"PicturePacker$Output", "addBit", "(I)V"⟩ : MethodName) ∈ TBL := tb_in 352 (by decide +kernel) (by decide +kernel)
theorem tw354 : Cond.instanceMethod (⟨"PicturePacker$Output", "addBit", "(I)V"⟩ : MethodName) ∈ TBL := tb_in 354 (by decide +kernel) (by decide +kernel)
theorem tw355 : Cond.code (⟨"PicturePacker$Output", "addBit", "(I)V"⟩ : MethodName) prog_3_method_10_code 2 none ∈ TBL := tb_in 355 (by decide +kernel) (by decide +kernel)
theorem tw356 : Cond.methodLink "PicturePacker$Output" 30 (⟨"PicturePacker$Output", "endByte", "()V"⟩ : MethodName) ∈ TBL := tb_in 356 (by decide +kernel) (by decide +kernel)
theorem tw357 : Cond.instanceMethod (⟨"PicturePacker$Output", "endByte", "()V"⟩ : MethodName) ∈ TBL := tb_in 357 (by decide +kernel) (by decide +kernel)
theorem tw358 : Cond.selects "PicturePacker$Output" (⟨"PicturePacker$Output", "endByte", "()V"⟩ : MethodName) (⟨"PicturePacker$Output", "endByte", "()V"⟩ : MethodName) ∈ TBL := tb_in 358 (by decide +kernel) (by decide +kernel)
theorem tw359 : Cond.code (⟨"PicturePacker$Output", "endByte", "()V"⟩ : MethodName) prog_3_method_11_code 1 none ∈ TBL := tb_in 359 (by decide +kernel) (by decide +kernel)
theorem tw360 : Cond.methodLink "PicturePacker$Packer" 45 (⟨"PicturePacker$RunFinder", "lookFrom", "(I)V"⟩ : MethodName) ∈ TBL := tb_in 360 (by decide +kernel) (by decide +kernel)
theorem tw361 : Cond.instanceMethod (⟨"PicturePacker$RunFinder", "lookFrom", "(I)V"⟩ : MethodName) ∈ TBL := tb_in 361 (by decide +kernel) (by decide +kernel)
theorem tw362 : Cond.selects "PicturePacker$RunFinder" (⟨"PicturePacker$RunFinder", "lookFrom", "(I)V"⟩ : MethodName) (⟨"PicturePacker$RunFinder", "lookFrom", "(I)V"⟩ : MethodName) ∈ TBL := tb_in 362 (by decide +kernel) (by decide +kernel)
theorem tw363 : Cond.code (⟨"PicturePacker$RunFinder", "lookFrom", "(I)V"⟩ : MethodName) prog_7_method_3_code 6 none ∈ TBL := tb_in 363 (by decide +kernel) (by decide +kernel)
theorem tw364 : Cond.methodLink "PicturePacker$RunFinder" 37 (⟨"PicturePacker$RunFinder", "chainUpTo", "(I)V"⟩ : MethodName) ∈ TBL := tb_in 364 (by decide +kernel) (by decide +kernel)
theorem tw366 : Cond.instanceMethod (⟨"PicturePacker$RunFinder", "chainUpTo", "(I)V"⟩ : MethodName) ∈ TBL := tb_in 366 (by decide +kernel) (by decide +kernel)
theorem tw367 : Cond.code (⟨"PicturePacker$RunFinder", "chainUpTo", "(I)V"⟩ : MethodName) prog_7_method_4_code 3 none ∈ TBL := tb_in 367 (by decide +kernel) (by decide +kernel)
theorem tw368 : Cond.methodLink "PicturePacker$RunFinder" 47 (⟨"PicturePacker$RunFinder", "mark", "(I)I"⟩ : MethodName) ∈ TBL := tb_in 368 (by decide +kernel) (by decide +kernel)
theorem tw370 : Cond.instanceMethod (⟨"PicturePacker$RunFinder", "mark", "(I)I"⟩ : MethodName) ∈ TBL := tb_in 370 (by decide +kernel) (by decide +kernel)
theorem tw371 : Cond.code (⟨"PicturePacker$RunFinder", "mark", "(I)I"⟩ : MethodName) prog_7_method_5_code 2 (some .int) ∈ TBL := tb_in 371 (by decide +kernel) (by decide +kernel)
theorem tw372 : Cond.methodLink "PicturePacker$RunFinder" 41 (⟨"java/lang/Math", "min", "(II)I"⟩ : MethodName) ∈ TBL := tb_in 372 (by decide +kernel) (by decide +kernel)
theorem tw373 : Cond.methodLink "PicturePacker$RunFinder" 51 (⟨"PicturePacker$RunFinder", "sameBytes", "(III)I"⟩ : MethodName) ∈ TBL := tb_in 373 (by decide +kernel) (by decide +kernel)
theorem tw375 : Cond.instanceMethod (⟨"PicturePacker$RunFinder", "sameBytes", "(III)I"⟩ : MethodName) ∈ TBL := tb_in 375 (by decide +kernel) (by decide +kernel)
theorem tw376 : Cond.code (⟨"PicturePacker$RunFinder", "sameBytes", "(III)I"⟩ : MethodName) prog_7_method_6_code 5 (some .int) ∈ TBL := tb_in 376 (by decide +kernel) (by decide +kernel)
theorem tw377 : Cond.methodLink "PicturePacker$Packer" 55 (⟨"PicturePacker$Packer", "addRun", "(II)V"⟩ : MethodName) ∈ TBL := tb_in 377 (by decide +kernel) (by decide +kernel)
theorem tw379 : Cond.instanceMethod (⟨"PicturePacker$Packer", "addRun", "(II)V"⟩ : MethodName) ∈ TBL := tb_in 379 (by decide +kernel) (by decide +kernel)
theorem tw380 : Cond.code (⟨"PicturePacker$Packer", "addRun", "(II)V"⟩ : MethodName) prog_4_method_4_code 3 none ∈ TBL := tb_in 380 (by decide +kernel) (by decide +kernel)
theorem tw381 : Cond.methodLink "PicturePacker$Packer" 70 (⟨"java/lang/Math", "max", "(II)I"⟩ : MethodName) ∈ TBL := tb_in 381 (by decide +kernel) (by decide +kernel)
theorem tw382 : Cond.methodLink "PicturePacker$Packer" 76 (⟨"PicturePacker$Packer", "addLength", "(I)V"⟩ : MethodName) ∈ TBL := tb_in 382 (by decide +kernel) (by decide +kernel)
theorem tw384 : Cond.instanceMethod (⟨"PicturePacker$Packer", "addLength", "(I)V"⟩ : MethodName) ∈ TBL := tb_in 384 (by decide +kernel) (by decide +kernel)
theorem tw385 : Cond.code (⟨"PicturePacker$Packer", "addLength", "(I)V"⟩ : MethodName) prog_4_method_5_code 2 none ∈ TBL := tb_in 385 (by decide +kernel) (by decide +kernel)
theorem tw386 : Cond.methodLink "PicturePacker$Packer" 61 (⟨"PicturePacker$Packer", "addRunSign", "(I)V"⟩ : MethodName) ∈ TBL := tb_in 386 (by decide +kernel) (by decide +kernel)
theorem tw388 : Cond.instanceMethod (⟨"PicturePacker$Packer", "addRunSign", "(I)V"⟩ : MethodName) ∈ TBL := tb_in 388 (by decide +kernel) (by decide +kernel)
theorem tw389 : Cond.code (⟨"PicturePacker$Packer", "addRunSign", "(I)V"⟩ : MethodName) prog_4_method_8_code 2 none ∈ TBL := tb_in 389 (by decide +kernel) (by decide +kernel)
theorem tw390 : Cond.methodLink "PicturePacker$Packer" 67 (⟨"PicturePacker$Output", "addBitsHighestFirst", "(II)V"⟩ : MethodName) ∈ TBL := tb_in 390 (by decide +kernel) (by decide +kernel)
theorem tw391 : Cond.instanceMethod (⟨"PicturePacker$Output", "addBitsHighestFirst", "(II)V"⟩ : MethodName) ∈ TBL := tb_in 391 (by decide +kernel) (by decide +kernel)
theorem tw392 : Cond.selects "PicturePacker$Output" (⟨"PicturePacker$Output", "addBitsHighestFirst", "(II)V"⟩ : MethodName) (⟨"PicturePacker$Output", "addBitsHighestFirst", "(II)V"⟩ : MethodName) ∈ TBL := tb_in 392 (by decide +kernel) (by decide +kernel)
theorem tw393 : Cond.code (⟨"PicturePacker$Output", "addBitsHighestFirst", "(II)V"⟩ : MethodName) prog_3_method_8_code 4 none ∈ TBL := tb_in 393 (by decide +kernel) (by decide +kernel)
theorem tw394 : Cond.methodLink "PicturePacker$Packer" 82 (⟨"PicturePacker$Packer", "addLongLength", "(I)V"⟩ : MethodName) ∈ TBL := tb_in 394 (by decide +kernel) (by decide +kernel)
theorem tw396 : Cond.instanceMethod (⟨"PicturePacker$Packer", "addLongLength", "(I)V"⟩ : MethodName) ∈ TBL := tb_in 396 (by decide +kernel) (by decide +kernel)
theorem tw397 : Cond.code (⟨"PicturePacker$Packer", "addLongLength", "(I)V"⟩ : MethodName) prog_4_method_6_code 4 none ∈ TBL := tb_in 397 (by decide +kernel) (by decide +kernel)
theorem tw398 : Cond.methodLink "PicturePacker$Packer" 79 (⟨"PicturePacker$Packer", "addDistance", "(I)V"⟩ : MethodName) ∈ TBL := tb_in 398 (by decide +kernel) (by decide +kernel)
theorem tw400 : Cond.instanceMethod (⟨"PicturePacker$Packer", "addDistance", "(I)V"⟩ : MethodName) ∈ TBL := tb_in 400 (by decide +kernel) (by decide +kernel)
theorem tw401 : Cond.code (⟨"PicturePacker$Packer", "addDistance", "(I)V"⟩ : MethodName) prog_4_method_7_code 4 none ∈ TBL := tb_in 401 (by decide +kernel) (by decide +kernel)
theorem tw402 : Cond.methodLink "PicturePacker$Packer" 58 (⟨"PicturePacker$Packer", "addSingle", "(I)V"⟩ : MethodName) ∈ TBL := tb_in 402 (by decide +kernel) (by decide +kernel)
theorem tw404 : Cond.instanceMethod (⟨"PicturePacker$Packer", "addSingle", "(I)V"⟩ : MethodName) ∈ TBL := tb_in 404 (by decide +kernel) (by decide +kernel)
theorem tw405 : Cond.code (⟨"PicturePacker$Packer", "addSingle", "(I)V"⟩ : MethodName) prog_4_method_3_code 2 none ∈ TBL := tb_in 405 (by decide +kernel) (by decide +kernel)
theorem tw406 : Cond.methodLink "PicturePacker$Packer" 64 (⟨"PicturePacker$Output", "endByte", "()V"⟩ : MethodName) ∈ TBL := tb_in 406 (by decide +kernel) (by decide +kernel)
theorem tw407 : Cond.methodLink "PicturePacker" 148 (⟨"PicturePacker$Rows", "sum", "()I"⟩ : MethodName) ∈ TBL := tb_in 407 (by decide +kernel) (by decide +kernel)
theorem tw408 : Cond.instanceMethod (⟨"PicturePacker$Rows", "sum", "()I"⟩ : MethodName) ∈ TBL := tb_in 408 (by decide +kernel) (by decide +kernel)
theorem tw409 : Cond.selects "PicturePacker$Rows" (⟨"PicturePacker$Rows", "sum", "()I"⟩ : MethodName) (⟨"PicturePacker$Rows", "sum", "()I"⟩ : MethodName) ∈ TBL := tb_in 409 (by decide +kernel) (by decide +kernel)
theorem tw410 : Cond.code (⟨"PicturePacker$Rows", "sum", "()I"⟩ : MethodName) prog_6_method_6_code 4 (some .int) ∈ TBL := tb_in 410 (by decide +kernel) (by decide +kernel)
theorem tw411 : Cond.constant "PicturePacker$Rows" 63 65521 ∈ TBL := tb_in 411 (by decide +kernel) (by decide +kernel)
theorem tw412 : Cond.constant "PicturePacker$Rows" 64 65536 ∈ TBL := tb_in 412 (by decide +kernel) (by decide +kernel)
theorem tw413 : Cond.constant "PicturePacker" 108 1229278788 ∈ TBL := tb_in 413 (by decide +kernel) (by decide +kernel)
theorem tw435 : Cond.fieldLink "PicturePackerModel" 26 "PicturePackerModel" "thrown" "I" ∈ TBL := tb_in 435 (by decide +kernel) (by decide +kernel)
theorem tw436 : Cond.fieldLink "PicturePackerModel" 19 "PicturePackerModel" "width" "I" ∈ TBL := tb_in 436 (by decide +kernel) (by decide +kernel)
theorem tw437 : Cond.fieldLink "PicturePackerModel" 23 "PicturePackerModel" "height" "I" ∈ TBL := tb_in 437 (by decide +kernel) (by decide +kernel)
theorem tw438 : Cond.fieldLink "PicturePackerModel" 7 "PicturePackerModel" "colours" "[I" ∈ TBL := tb_in 438 (by decide +kernel) (by decide +kernel)
theorem tw439 : Cond.fieldLink "PicturePackerModel" 13 "PicturePackerModel" "rows" "[I" ∈ TBL := tb_in 439 (by decide +kernel) (by decide +kernel)
theorem tw440 : Cond.fieldLink "PicturePackerModel" 45 "PicturePackerModel" "many" "I" ∈ TBL := tb_in 440 (by decide +kernel) (by decide +kernel)
theorem tw441 : Cond.fieldLink "PicturePackerModel" 16 "PicturePackerModel" "file" "[I" ∈ TBL := tb_in 441 (by decide +kernel) (by decide +kernel)
theorem tw442 : Cond.fieldLink "PicturePackerModel" 51 "PicturePackerModel" "size" "I" ∈ TBL := tb_in 442 (by decide +kernel) (by decide +kernel)
theorem tw443 : Cond.fieldLink "PicturePackerModel" 62 "PicturePackerModel" "bit" "I" ∈ TBL := tb_in 443 (by decide +kernel) (by decide +kernel)
theorem tw444 : Cond.fieldLink "PicturePackerModel" 94 "PicturePackerModel" "single" "I" ∈ TBL := tb_in 444 (by decide +kernel) (by decide +kernel)
theorem tw445 : Cond.fieldLink "PicturePackerModel" 88 "PicturePackerModel" "runs" "I" ∈ TBL := tb_in 445 (by decide +kernel) (by decide +kernel)
theorem tw446 : Cond.fieldLink "PicturePackerModel" 91 "PicturePackerModel" "longest" "I" ∈ TBL := tb_in 446 (by decide +kernel) (by decide +kernel)
theorem tw476 : Cond.methodLink "PicturePackerModel" 29 (⟨"PicturePackerModel", "in", "(II)Z"⟩ : MethodName) ∈ TBL := tb_in 476 (by decide +kernel) (by decide +kernel)
theorem tw478 : Cond.instanceMethod (⟨"PicturePackerModel", "in", "(II)Z"⟩ : MethodName) ∈ TBL := tb_in 478 (by decide +kernel) (by decide +kernel)
theorem tw479 : Cond.code (⟨"PicturePackerModel", "in", "(II)Z"⟩ : MethodName) prog_9_method_3_code 3 (some .boolean) ∈ TBL := tb_in 479 (by decide +kernel) (by decide +kernel)
theorem tw480 : Cond.constant "PicturePackerModel" 33 16777215 ∈ TBL := tb_in 480 (by decide +kernel) (by decide +kernel)
theorem tw493 : Cond.methodLink "PicturePackerModel" 98 (⟨"PicturePackerModel", "makeRows", "()V"⟩ : MethodName) ∈ TBL := tb_in 493 (by decide +kernel) (by decide +kernel)
theorem tw495 : Cond.instanceMethod (⟨"PicturePackerModel", "makeRows", "()V"⟩ : MethodName) ∈ TBL := tb_in 495 (by decide +kernel) (by decide +kernel)
theorem tw496 : Cond.code (⟨"PicturePackerModel", "makeRows", "()V"⟩ : MethodName) prog_9_method_11_code 4 none ∈ TBL := tb_in 496 (by decide +kernel) (by decide +kernel)
theorem tw497 : Cond.methodLink "PicturePackerModel" 48 (⟨"PicturePackerModel", "sumOf", "(II)I"⟩ : MethodName) ∈ TBL := tb_in 497 (by decide +kernel) (by decide +kernel)
theorem tw499 : Cond.instanceMethod (⟨"PicturePackerModel", "sumOf", "(II)I"⟩ : MethodName) ∈ TBL := tb_in 499 (by decide +kernel) (by decide +kernel)
theorem tw500 : Cond.code (⟨"PicturePackerModel", "sumOf", "(II)I"⟩ : MethodName) prog_9_method_10_code 6 (some .int) ∈ TBL := tb_in 500 (by decide +kernel) (by decide +kernel)
theorem tw501 : Cond.methodLink "PicturePackerModel" 41 (⟨"PicturePackerModel", "filtered", "(III)I"⟩ : MethodName) ∈ TBL := tb_in 501 (by decide +kernel) (by decide +kernel)
theorem tw503 : Cond.instanceMethod (⟨"PicturePackerModel", "filtered", "(III)I"⟩ : MethodName) ∈ TBL := tb_in 503 (by decide +kernel) (by decide +kernel)
theorem tw504 : Cond.code (⟨"PicturePackerModel", "filtered", "(III)I"⟩ : MethodName) prog_9_method_9_code 10 (some .int) ∈ TBL := tb_in 504 (by decide +kernel) (by decide +kernel)
theorem tw505 : Cond.methodLink "PicturePackerModel" 34 (⟨"PicturePackerModel", "byteOf", "(II)I"⟩ : MethodName) ∈ TBL := tb_in 505 (by decide +kernel) (by decide +kernel)
theorem tw507 : Cond.instanceMethod (⟨"PicturePackerModel", "byteOf", "(II)I"⟩ : MethodName) ∈ TBL := tb_in 507 (by decide +kernel) (by decide +kernel)
theorem tw508 : Cond.code (⟨"PicturePackerModel", "byteOf", "(II)I"⟩ : MethodName) prog_9_method_7_code 3 (some .int) ∈ TBL := tb_in 508 (by decide +kernel) (by decide +kernel)
theorem tw509 : Cond.methodLink "PicturePackerModel" 38 (⟨"PicturePackerModel", "far", "(II)I"⟩ : MethodName) ∈ TBL := tb_in 509 (by decide +kernel) (by decide +kernel)
theorem tw510 : Cond.static (⟨"PicturePackerModel", "far", "(II)I"⟩ : MethodName) ∈ TBL := tb_in 510 (by decide +kernel) (by decide +kernel)
theorem tw511 : Cond.code (⟨"PicturePackerModel", "far", "(II)I"⟩ : MethodName) prog_9_method_8_code 2 (some .int) ∈ TBL := tb_in 511 (by decide +kernel) (by decide +kernel)
theorem tw512 : Cond.methodLink "PicturePackerModel" 101 (⟨"PicturePackerModel", "name", "(IIII)V"⟩ : MethodName) ∈ TBL := tb_in 512 (by decide +kernel) (by decide +kernel)
theorem tw514 : Cond.instanceMethod (⟨"PicturePackerModel", "name", "(IIII)V"⟩ : MethodName) ∈ TBL := tb_in 514 (by decide +kernel) (by decide +kernel)
theorem tw515 : Cond.code (⟨"PicturePackerModel", "name", "(IIII)V"⟩ : MethodName) prog_9_method_14_code 5 none ∈ TBL := tb_in 515 (by decide +kernel) (by decide +kernel)
theorem tw516 : Cond.methodLink "PicturePackerModel" 54 (⟨"PicturePackerModel", "one", "(I)V"⟩ : MethodName) ∈ TBL := tb_in 516 (by decide +kernel) (by decide +kernel)
theorem tw518 : Cond.instanceMethod (⟨"PicturePackerModel", "one", "(I)V"⟩ : MethodName) ∈ TBL := tb_in 518 (by decide +kernel) (by decide +kernel)
theorem tw519 : Cond.code (⟨"PicturePackerModel", "one", "(I)V"⟩ : MethodName) prog_9_method_12_code 2 none ∈ TBL := tb_in 519 (by decide +kernel) (by decide +kernel)
theorem tw520 : Cond.methodLink "PicturePackerModel" 59 (⟨"PicturePackerModel", "four", "(I)V"⟩ : MethodName) ∈ TBL := tb_in 520 (by decide +kernel) (by decide +kernel)
theorem tw522 : Cond.instanceMethod (⟨"PicturePackerModel", "four", "(I)V"⟩ : MethodName) ∈ TBL := tb_in 522 (by decide +kernel) (by decide +kernel)
theorem tw523 : Cond.code (⟨"PicturePackerModel", "four", "(I)V"⟩ : MethodName) prog_9_method_13_code 2 none ∈ TBL := tb_in 523 (by decide +kernel) (by decide +kernel)
theorem tw524 : Cond.methodLink "PicturePackerModel" 105 (⟨"PicturePackerModel", "check", "(I)V"⟩ : MethodName) ∈ TBL := tb_in 524 (by decide +kernel) (by decide +kernel)
theorem tw526 : Cond.instanceMethod (⟨"PicturePackerModel", "check", "(I)V"⟩ : MethodName) ∈ TBL := tb_in 526 (by decide +kernel) (by decide +kernel)
theorem tw527 : Cond.code (⟨"PicturePackerModel", "check", "(I)V"⟩ : MethodName) prog_9_method_15_code 6 none ∈ TBL := tb_in 527 (by decide +kernel) (by decide +kernel)
theorem tw528 : Cond.constant "PicturePackerModel" 58 (-306674912) ∈ TBL := tb_in 528 (by decide +kernel) (by decide +kernel)
theorem tw529 : Cond.methodLink "PicturePackerModel" 108 (⟨"PicturePackerModel", "pack", "()V"⟩ : MethodName) ∈ TBL := tb_in 529 (by decide +kernel) (by decide +kernel)
theorem tw531 : Cond.instanceMethod (⟨"PicturePackerModel", "pack", "()V"⟩ : MethodName) ∈ TBL := tb_in 531 (by decide +kernel) (by decide +kernel)
theorem tw532 : Cond.code (⟨"PicturePackerModel", "pack", "()V"⟩ : MethodName) prog_9_method_23_code 7 none ∈ TBL := tb_in 532 (by decide +kernel) (by decide +kernel)
theorem tw533 : Cond.methodLink "PicturePackerModel" 65 (⟨"PicturePackerModel", "next", "(I)V"⟩ : MethodName) ∈ TBL := tb_in 533 (by decide +kernel) (by decide +kernel)
theorem tw535 : Cond.instanceMethod (⟨"PicturePackerModel", "next", "(I)V"⟩ : MethodName) ∈ TBL := tb_in 535 (by decide +kernel) (by decide +kernel)
theorem tw536 : Cond.code (⟨"PicturePackerModel", "next", "(I)V"⟩ : MethodName) prog_9_method_16_code 2 none ∈ TBL := tb_in 536 (by decide +kernel) (by decide +kernel)
theorem tw537 : Cond.constant "PicturePackerModel" 78 32768 ∈ TBL := tb_in 537 (by decide +kernel) (by decide +kernel)
theorem tw538 : Cond.methodLink "PicturePackerModel" 79 (⟨"PicturePackerModel", "run", "(III)I"⟩ : MethodName) ∈ TBL := tb_in 538 (by decide +kernel) (by decide +kernel)
theorem tw540 : Cond.instanceMethod (⟨"PicturePackerModel", "run", "(III)I"⟩ : MethodName) ∈ TBL := tb_in 540 (by decide +kernel) (by decide +kernel)
theorem tw541 : Cond.code (⟨"PicturePackerModel", "run", "(III)I"⟩ : MethodName) prog_9_method_22_code 5 (some .int) ∈ TBL := tb_in 541 (by decide +kernel) (by decide +kernel)
theorem tw542 : Cond.methodLink "PicturePackerModel" 82 (⟨"PicturePackerModel", "length", "(I)V"⟩ : MethodName) ∈ TBL := tb_in 542 (by decide +kernel) (by decide +kernel)
theorem tw544 : Cond.instanceMethod (⟨"PicturePackerModel", "length", "(I)V"⟩ : MethodName) ∈ TBL := tb_in 544 (by decide +kernel) (by decide +kernel)
theorem tw545 : Cond.code (⟨"PicturePackerModel", "length", "(I)V"⟩ : MethodName) prog_9_method_20_code 5 none ∈ TBL := tb_in 545 (by decide +kernel) (by decide +kernel)
theorem tw546 : Cond.methodLink "PicturePackerModel" 72 (⟨"PicturePackerModel", "sign", "(I)V"⟩ : MethodName) ∈ TBL := tb_in 546 (by decide +kernel) (by decide +kernel)
theorem tw548 : Cond.instanceMethod (⟨"PicturePackerModel", "sign", "(I)V"⟩ : MethodName) ∈ TBL := tb_in 548 (by decide +kernel) (by decide +kernel)
theorem tw549 : Cond.code (⟨"PicturePackerModel", "sign", "(I)V"⟩ : MethodName) prog_9_method_19_code 2 none ∈ TBL := tb_in 549 (by decide +kernel) (by decide +kernel)
theorem tw550 : Cond.methodLink "PicturePackerModel" 68 (⟨"PicturePackerModel", "highest", "(II)V"⟩ : MethodName) ∈ TBL := tb_in 550 (by decide +kernel) (by decide +kernel)
theorem tw552 : Cond.instanceMethod (⟨"PicturePackerModel", "highest", "(II)V"⟩ : MethodName) ∈ TBL := tb_in 552 (by decide +kernel) (by decide +kernel)
theorem tw553 : Cond.code (⟨"PicturePackerModel", "highest", "(II)V"⟩ : MethodName) prog_9_method_17_code 4 none ∈ TBL := tb_in 553 (by decide +kernel) (by decide +kernel)
theorem tw554 : Cond.methodLink "PicturePackerModel" 75 (⟨"PicturePackerModel", "lowest", "(II)V"⟩ : MethodName) ∈ TBL := tb_in 554 (by decide +kernel) (by decide +kernel)
theorem tw556 : Cond.instanceMethod (⟨"PicturePackerModel", "lowest", "(II)V"⟩ : MethodName) ∈ TBL := tb_in 556 (by decide +kernel) (by decide +kernel)
theorem tw557 : Cond.code (⟨"PicturePackerModel", "lowest", "(II)V"⟩ : MethodName) prog_9_method_18_code 4 none ∈ TBL := tb_in 557 (by decide +kernel) (by decide +kernel)
theorem tw558 : Cond.methodLink "PicturePackerModel" 85 (⟨"PicturePackerModel", "distance", "(I)V"⟩ : MethodName) ∈ TBL := tb_in 558 (by decide +kernel) (by decide +kernel)
theorem tw560 : Cond.instanceMethod (⟨"PicturePackerModel", "distance", "(I)V"⟩ : MethodName) ∈ TBL := tb_in 560 (by decide +kernel) (by decide +kernel)
theorem tw561 : Cond.code (⟨"PicturePackerModel", "distance", "(I)V"⟩ : MethodName) prog_9_method_21_code 5 none ∈ TBL := tb_in 561 (by decide +kernel) (by decide +kernel)
theorem tw562 : Cond.methodLink "PicturePackerModel" 111 (⟨"PicturePackerModel", "sum", "()V"⟩ : MethodName) ∈ TBL := tb_in 562 (by decide +kernel) (by decide +kernel)
theorem tw564 : Cond.instanceMethod (⟨"PicturePackerModel", "sum", "()V"⟩ : MethodName) ∈ TBL := tb_in 564 (by decide +kernel) (by decide +kernel)
theorem tw565 : Cond.code (⟨"PicturePackerModel", "sum", "()V"⟩ : MethodName) prog_9_method_24_code 4 none ∈ TBL := tb_in 565 (by decide +kernel) (by decide +kernel)
theorem tw566 : Cond.constant "PicturePackerModel" 97 65521 ∈ TBL := tb_in 566 (by decide +kernel) (by decide +kernel)
end
section
-- PicturePacker$Output.addByte(I)V
theorem d_Out_addByte_0 : decode prog_3_method_4_code 0 = .ok (.aload_n 0, 1) := by decide +kernel
theorem d_Out_addByte_1 : decode prog_3_method_4_code 1 = .ok (.getfield 13, 3) := by decide +kernel
theorem d_Out_addByte_4 : decode prog_3_method_4_code 4 = .ok (.ifCond .lt 39, 3) := by decide +kernel
theorem d_Out_addByte_7 : decode prog_3_method_4_code 7 = .ok (.aload_n 0, 1) := by decide +kernel
theorem d_Out_addByte_8 : decode prog_3_method_4_code 8 = .ok (.getfield 13, 3) := by decide +kernel
theorem d_Out_addByte_11 : decode prog_3_method_4_code 11 = .ok (.aload_n 0, 1) := by decide +kernel
theorem d_Out_addByte_12 : decode prog_3_method_4_code 12 = .ok (.getfield 7, 3) := by decide +kernel
theorem d_Out_addByte_15 : decode prog_3_method_4_code 15 = .ok (.arraylength, 1) := by decide +kernel
theorem d_Out_addByte_16 : decode prog_3_method_4_code 16 = .ok (.if_icmp .ge 27, 3) := by decide +kernel
theorem d_Out_addByte_19 : decode prog_3_method_4_code 19 = .ok (.aload_n 0, 1) := by decide +kernel
theorem d_Out_addByte_20 : decode prog_3_method_4_code 20 = .ok (.getfield 7, 3) := by decide +kernel
theorem d_Out_addByte_23 : decode prog_3_method_4_code 23 = .ok (.aload_n 0, 1) := by decide +kernel
theorem d_Out_addByte_24 : decode prog_3_method_4_code 24 = .ok (.getfield 13, 3) := by decide +kernel
theorem d_Out_addByte_27 : decode prog_3_method_4_code 27 = .ok (.iload_n 1, 1) := by decide +kernel
theorem d_Out_addByte_28 : decode prog_3_method_4_code 28 = .ok (.sipush 255, 3) := by decide +kernel
theorem d_Out_addByte_31 : decode prog_3_method_4_code 31 = .ok (.iand, 1) := by decide +kernel
theorem d_Out_addByte_32 : decode prog_3_method_4_code 32 = .ok (.iastore, 1) := by decide +kernel
theorem d_Out_addByte_33 : decode prog_3_method_4_code 33 = .ok (.aload_n 0, 1) := by decide +kernel
theorem d_Out_addByte_34 : decode prog_3_method_4_code 34 = .ok (.dup, 1) := by decide +kernel
theorem d_Out_addByte_35 : decode prog_3_method_4_code 35 = .ok (.getfield 13, 3) := by decide +kernel
theorem d_Out_addByte_38 : decode prog_3_method_4_code 38 = .ok (.iconst 1, 1) := by decide +kernel
theorem d_Out_addByte_39 : decode prog_3_method_4_code 39 = .ok (.iadd, 1) := by decide +kernel
theorem d_Out_addByte_40 : decode prog_3_method_4_code 40 = .ok (.putfield 13, 3) := by decide +kernel
theorem d_Out_addByte_43 : decode prog_3_method_4_code 43 = .ok (.return_, 1) := by decide +kernel
abbrev y_Out_addByte : MethodName := ⟨"PicturePacker$Output", "addByte", "(I)V"⟩
def wp_Out_addByte (n : Nat → Nat) (Out_size : Int32) (ob : Nat → Int32) (x1 : Int32) (post : Int32 × (Nat → Int32) → Prop) : Prop := ((Out_size : Int32) < 0 → (post (Out_size, ob))) ∧ (¬ ((Out_size : Int32) < 0) → (((nI (n 11) : Int32) ≤ Out_size → (post (Out_size, ob))) ∧ (¬ ((nI (n 11) : Int32) ≤ Out_size) → (∀ z3 : Int32, z3 = (x1 &&& 255) → (vp_in Out_size (n 11) ∧ (∀ f5 : Nat → Int32, f5 = upd ob (Out_size : Int32).toNatClampNeg z3 → (∀ z6 : Int32, z6 = (Out_size + 1) → (post (z6, f5)))))))))
set_option maxHeartbeats 2000000 in
set_option maxRecDepth 20000 in
theorem c_Out_addByte {l : Launch} {dC : Nat → ClassId} {dI : Nat → Nat → Nat} {cI : ClassId} {tb a n : Nat → Nat} {Out_size : Int32} {Out_gathered : Int32} {Out_gatheredBits : Int32} {ob : Nat → Int32} {x1 : Int32} {post : Int32 × (Nat → Int32) → Prop} (h : wp_Out_addByte n Out_size ob x1 post) : CtV classes dC dI cI tb l y_Out_addByte prog_3_method_4_code 2 ({ frames := 0, cells := 0, slots := 0, locals := 0 }) [.ref (a 3), .int x1] [e_Out a Out_size Out_gathered Out_gatheredBits, e_ar a n cI 11 ob] (Int32 × (Nat → Int32)) (fun u => [e_Out a u.1 Out_gathered Out_gatheredBits, e_ar a n cI 11 u.2]) post := by
  refine startV (by decide) (Nat.le_of_ble_eq_true rfl) ?_
  intro p e s m below meth c ls E hr hlk hnm hl hw
  have hl : lv_has ls 2 [(0, .ref (a 3)), (1, .int x1)] := hl
  generalize va_A [e_Out a Out_size Out_gathered Out_gatheredBits, e_ar a n cI 11 ob] s.heap.size = A at hw ⊢
  obtain ⟨hx, hb, hml, hown, hts⟩ := id E
  unfold wp_Out_addByte at h
  refine lv_aload_n hx hb d_Out_addByte_0 rfl (lv_at hl 0 rfl) ?_
  refine kget (v := .int Out_size) (T := F_Out) E hw in_Out rfl 0 1 rfl (by decide) tw122 rfl d_Out_addByte_1 ?_
  refine lv_if_lt (tgt := 43) hx hb d_Out_addByte_4 (by decide) (fun c1 => ?_) (fun c1 => ?_)
  · have h := h.1 c1
    exact retV (out := fun u => [e_Out a u.1 Out_gathered Out_gatheredBits, e_ar a n cI 11 u.2]) (u := (Out_size, ob)) E hr hlk hw h d_Out_addByte_43
  · have h := h.2 c1
    refine lv_aload_n hx hb d_Out_addByte_7 rfl (lv_at hl 0 rfl) ?_
    refine kget (v := .int Out_size) (T := F_Out) E hw in_Out rfl 0 1 rfl (by decide) tw122 rfl d_Out_addByte_8 ?_
    refine lv_aload_n hx hb d_Out_addByte_11 rfl (lv_at hl 0 rfl) ?_
    refine kget (v := .ref (a 11)) (T := F_Out) E hw in_Out rfl 0 0 rfl (by decide) tw119 rfl d_Out_addByte_12 ?_
    refine kalen E hw 1 rfl d_Out_addByte_15 ?_
    refine lv_icmp_ge (tgt := 43) hx hb d_Out_addByte_16 (by decide) (fun c2 => ?_) (fun c2 => ?_)
    · have h := h.1 c2
      exact retV (out := fun u => [e_Out a u.1 Out_gathered Out_gatheredBits, e_ar a n cI 11 u.2]) (u := (Out_size, ob)) E hr hlk hw h d_Out_addByte_43
    · have h := h.2 c2
      refine lv_aload_n hx hb d_Out_addByte_19 rfl (lv_at hl 0 rfl) ?_
      refine kget (v := .ref (a 11)) (T := F_Out) E hw in_Out rfl 0 0 rfl (by decide) tw119 rfl d_Out_addByte_20 ?_
      refine lv_aload_n hx hb d_Out_addByte_23 rfl (lv_at hl 0 rfl) ?_
      refine kget (v := .int Out_size) (T := F_Out) E hw in_Out rfl 0 1 rfl (by decide) tw122 rfl d_Out_addByte_24 ?_
      refine lv_iload_n hx hb d_Out_addByte_27 rfl (lv_at hl 1 rfl) ?_
      refine lv_sipush (v := 255) hx hb d_Out_addByte_28 (by decide) ?_
      refine lv_iand hx hb d_Out_addByte_31 ?_
      refine lv_topi (fun z3 ez3 => ?_)
      have h := h z3 ez3
      obtain ⟨b4, h⟩ := h
      obtain ⟨f5, ef5⟩ : ∃ z : Nat → Int32, z = upd ob (Out_size : Int32).toNatClampNeg z3 := ⟨_, rfl⟩
      have h := h f5 ef5
      refine kast (ws' := [e_Out a Out_size Out_gathered Out_gatheredBits, e_ar a n cI 11 f5]) E hw 1 rfl b4 (by rw [ef5]; rfl) d_Out_addByte_32 (fun H locs hw => ?_)
      refine lv_aload_n hx hb d_Out_addByte_33 rfl (lv_at hl 0 rfl) ?_
      refine lv_dup hx hb d_Out_addByte_34 rfl ?_
      refine kget (v := .int Out_size) (T := F_Out) E hw in_Out rfl 0 1 rfl (by decide) tw122 rfl d_Out_addByte_35 ?_
      refine lv_iconst (v := 1) hx hb d_Out_addByte_38 (by decide) ?_
      refine lv_iadd hx hb d_Out_addByte_39 ?_
      refine lv_topi (fun z6 ez6 => ?_)
      have h := h z6 ez6
      refine kput (v := .int z6) (ty := .int) (T := F_Out) (ws' := [e_Out a z6 Out_gathered Out_gatheredBits, e_ar a n cI 11 f5]) E hw in_Out t_Out t_Out_ok n_Out rfl 0 1 rfl (by decide) tw122 rfl rfl rfl rfl (Nat.le_of_ble_eq_true rfl) rfl d_Out_addByte_40 (fun H locs hw => ?_)
      exact retV (out := fun u => [e_Out a u.1 Out_gathered Out_gatheredBits, e_ar a n cI 11 u.2]) (u := (z6, f5)) E hr hlk hw h d_Out_addByte_43
-- PicturePacker$Output.endByte()V
theorem d_Out_endByte_0 : decode prog_3_method_11_code 0 = .ok (.aload_n 0, 1) := by decide +kernel
theorem d_Out_endByte_1 : decode prog_3_method_11_code 1 = .ok (.getfield 20, 3) := by decide +kernel
theorem d_Out_endByte_4 : decode prog_3_method_11_code 4 = .ok (.ifCond .le 21, 3) := by decide +kernel
theorem d_Out_endByte_7 : decode prog_3_method_11_code 7 = .ok (.aload_n 0, 1) := by decide +kernel
theorem d_Out_endByte_8 : decode prog_3_method_11_code 8 = .ok (.aload_n 0, 1) := by decide +kernel
theorem d_Out_endByte_9 : decode prog_3_method_11_code 9 = .ok (.getfield 17, 3) := by decide +kernel
theorem d_Out_endByte_12 : decode prog_3_method_11_code 12 = .ok (.invokevirtual 23, 3) := by decide +kernel
theorem d_Out_endByte_15 : decode prog_3_method_11_code 15 = .ok (.aload_n 0, 1) := by decide +kernel
theorem d_Out_endByte_16 : decode prog_3_method_11_code 16 = .ok (.iconst 0, 1) := by decide +kernel
theorem d_Out_endByte_17 : decode prog_3_method_11_code 17 = .ok (.putfield 17, 3) := by decide +kernel
theorem d_Out_endByte_20 : decode prog_3_method_11_code 20 = .ok (.aload_n 0, 1) := by decide +kernel
theorem d_Out_endByte_21 : decode prog_3_method_11_code 21 = .ok (.iconst 0, 1) := by decide +kernel
theorem d_Out_endByte_22 : decode prog_3_method_11_code 22 = .ok (.putfield 20, 3) := by decide +kernel
theorem d_Out_endByte_25 : decode prog_3_method_11_code 25 = .ok (.return_, 1) := by decide +kernel
abbrev y_Out_endByte : MethodName := ⟨"PicturePacker$Output", "endByte", "()V"⟩
def wp_Out_endByte (n : Nat → Nat) (Out_size : Int32) (Out_gathered : Int32) (Out_gatheredBits : Int32) (ob : Nat → Int32) (post : Int32 × Int32 × Int32 × (Nat → Int32) → Prop) : Prop := ((Out_gatheredBits : Int32) ≤ 0 → (post (Out_size, Out_gathered, Out_gatheredBits, ob))) ∧ (¬ ((Out_gatheredBits : Int32) ≤ 0) → (wp_Out_addByte n Out_size ob Out_gathered (fun u2 => post (u2.1, 0, 0, u2.2))))
set_option maxHeartbeats 2000000 in
set_option maxRecDepth 20000 in
theorem c_Out_endByte {l : Launch} {dC : Nat → ClassId} {dI : Nat → Nat → Nat} {cI : ClassId} {tb a n : Nat → Nat} {Out_size : Int32} {Out_gathered : Int32} {Out_gatheredBits : Int32} {ob : Nat → Int32} {post : Int32 × Int32 × Int32 × (Nat → Int32) → Prop} (h : wp_Out_endByte n Out_size Out_gathered Out_gatheredBits ob post) : CtV classes dC dI cI tb l y_Out_endByte prog_3_method_11_code 1 ({ frames := 1, cells := 0, slots := 0, locals := 21 }) [.ref (a 3)] [e_Out a Out_size Out_gathered Out_gatheredBits, e_ar a n cI 11 ob] (Int32 × Int32 × Int32 × (Nat → Int32)) (fun u => [e_Out a u.1 u.2.1 u.2.2.1, e_ar a n cI 11 u.2.2.2]) post := by
  refine startV (by decide) (Nat.le_of_ble_eq_true rfl) ?_
  intro p e s m below meth c ls E hr hlk hnm hl hw
  have hl : lv_has ls 1 [(0, .ref (a 3))] := hl
  generalize va_A [e_Out a Out_size Out_gathered Out_gatheredBits, e_ar a n cI 11 ob] s.heap.size = A at hw ⊢
  obtain ⟨hx, hb, hml, hown, hts⟩ := id E
  unfold wp_Out_endByte at h
  refine lv_aload_n hx hb d_Out_endByte_0 rfl (lv_at hl 0 rfl) ?_
  refine kget (v := .int Out_gatheredBits) (T := F_Out) E hw in_Out rfl 0 3 rfl (by decide) tw126 rfl d_Out_endByte_1 ?_
  refine lv_if_le (tgt := 25) hx hb d_Out_endByte_4 (by decide) (fun c1 => ?_) (fun c1 => ?_)
  · have h := h.1 c1
    exact retV (out := fun u => [e_Out a u.1 u.2.1 u.2.2.1, e_ar a n cI 11 u.2.2.2]) (u := (Out_size, Out_gathered, Out_gatheredBits, ob)) E hr hlk hw h d_Out_endByte_25
  · have h := h.2 c1
    refine lv_aload_n hx hb d_Out_endByte_7 rfl (lv_at hl 0 rfl) ?_
    refine lv_aload_n hx hb d_Out_endByte_8 rfl (lv_at hl 0 rfl) ?_
    refine kget (v := .int Out_gathered) (T := F_Out) E hw in_Out rfl 0 2 rfl (by decide) tw125 rfl d_Out_endByte_9 ?_
    refine kVv (y := y_Out_addByte) (ws' := fun u2 => [e_Out a u2.1 Out_gathered Out_gatheredBits, e_ar a n cI 11 u2.2]) (wr := []) (As := [.int Out_gathered]) (rest := []) E hw (c_Out_addByte (l := l) (dC := dC) (dI := dI) (cI := cI) (tb := tb) (a := a) (n := n) (Out_size := Out_size) (Out_gathered := Out_gathered) (Out_gatheredBits := Out_gatheredBits) (ob := ob) (x1 := Out_gathered) h) tw300 tw301 tw302 tw40 tw303 1 (by decide) ⟨Nat.le_of_ble_eq_true rfl, Nat.le_of_ble_eq_true rfl⟩ ⟨Nat.le_of_ble_eq_true rfl, Nat.le_of_ble_eq_true rfl⟩ ⟨rfl, rfl⟩ rfl rfl 0 rfl [0, 1] [] [0, 1] rfl rfl rfl rfl (by decide) rfl (fun _ => rfl) hl.1 rfl rfl (Nat.le_of_ble_eq_true rfl) d_Out_endByte_12 (fun u2 H locs h hw => ?_)
    refine lv_aload_n hx hb d_Out_endByte_15 rfl (lv_at hl 0 rfl) ?_
    refine lv_iconst (v := 0) hx hb d_Out_endByte_16 (by decide) ?_
    refine kput (v := .int 0) (ty := .int) (T := F_Out) (ws' := [e_Out a u2.1 0 Out_gatheredBits, e_ar a n cI 11 u2.2]) E hw in_Out t_Out t_Out_ok n_Out rfl 0 2 rfl (by decide) tw125 rfl rfl rfl rfl (Nat.le_of_ble_eq_true rfl) rfl d_Out_endByte_17 (fun H locs hw => ?_)
    refine lv_aload_n hx hb d_Out_endByte_20 rfl (lv_at hl 0 rfl) ?_
    refine lv_iconst (v := 0) hx hb d_Out_endByte_21 (by decide) ?_
    refine kput (v := .int 0) (ty := .int) (T := F_Out) (ws' := [e_Out a u2.1 0 0, e_ar a n cI 11 u2.2]) E hw in_Out t_Out t_Out_ok n_Out rfl 0 3 rfl (by decide) tw126 rfl rfl rfl rfl (Nat.le_of_ble_eq_true rfl) rfl d_Out_endByte_22 (fun H locs hw => ?_)
    exact retV (out := fun u => [e_Out a u.1 u.2.1 u.2.2.1, e_ar a n cI 11 u.2.2.2]) (u := (u2.1, 0, 0, u2.2)) E hr hlk hw h d_Out_endByte_25
-- PicturePacker$Output.addBit(I)V
theorem d_Out_addBit_0 : decode prog_3_method_10_code 0 = .ok (.aload_n 0, 1) := by decide +kernel
theorem d_Out_addBit_1 : decode prog_3_method_10_code 1 = .ok (.dup, 1) := by decide +kernel
theorem d_Out_addBit_2 : decode prog_3_method_10_code 2 = .ok (.getfield 17, 3) := by decide +kernel
theorem d_Out_addBit_5 : decode prog_3_method_10_code 5 = .ok (.iload_n 1, 1) := by decide +kernel
theorem d_Out_addBit_6 : decode prog_3_method_10_code 6 = .ok (.aload_n 0, 1) := by decide +kernel
theorem d_Out_addBit_7 : decode prog_3_method_10_code 7 = .ok (.getfield 20, 3) := by decide +kernel
theorem d_Out_addBit_10 : decode prog_3_method_10_code 10 = .ok (.ishl, 1) := by decide +kernel
theorem d_Out_addBit_11 : decode prog_3_method_10_code 11 = .ok (.ior, 1) := by decide +kernel
theorem d_Out_addBit_12 : decode prog_3_method_10_code 12 = .ok (.putfield 17, 3) := by decide +kernel
theorem d_Out_addBit_15 : decode prog_3_method_10_code 15 = .ok (.aload_n 0, 1) := by decide +kernel
theorem d_Out_addBit_16 : decode prog_3_method_10_code 16 = .ok (.dup, 1) := by decide +kernel
theorem d_Out_addBit_17 : decode prog_3_method_10_code 17 = .ok (.getfield 20, 3) := by decide +kernel
theorem d_Out_addBit_20 : decode prog_3_method_10_code 20 = .ok (.iconst 1, 1) := by decide +kernel
theorem d_Out_addBit_21 : decode prog_3_method_10_code 21 = .ok (.iadd, 1) := by decide +kernel
theorem d_Out_addBit_22 : decode prog_3_method_10_code 22 = .ok (.putfield 20, 3) := by decide +kernel
theorem d_Out_addBit_25 : decode prog_3_method_10_code 25 = .ok (.aload_n 0, 1) := by decide +kernel
theorem d_Out_addBit_26 : decode prog_3_method_10_code 26 = .ok (.getfield 20, 3) := by decide +kernel
theorem d_Out_addBit_29 : decode prog_3_method_10_code 29 = .ok (.bipush 8, 2) := by decide +kernel
theorem d_Out_addBit_31 : decode prog_3_method_10_code 31 = .ok (.if_icmp .ne 7, 3) := by decide +kernel
theorem d_Out_addBit_34 : decode prog_3_method_10_code 34 = .ok (.aload_n 0, 1) := by decide +kernel
theorem d_Out_addBit_35 : decode prog_3_method_10_code 35 = .ok (.invokevirtual 30, 3) := by decide +kernel
theorem d_Out_addBit_38 : decode prog_3_method_10_code 38 = .ok (.return_, 1) := by decide +kernel
abbrev y_Out_addBit : MethodName := ⟨"PicturePacker$Output", "addBit", "(I)V"⟩
def wp_Out_addBit (n : Nat → Nat) (Out_size : Int32) (Out_gathered : Int32) (Out_gatheredBits : Int32) (ob : Nat → Int32) (x1 : Int32) (post : Int32 × Int32 × Int32 × (Nat → Int32) → Prop) : Prop := ∀ z1 : Int32, z1 = (Out_gathered ||| ((x1 : Int32) <<< (Out_gatheredBits &&& 31))) → (∀ z2 : Int32, z2 = (Out_gatheredBits + 1) → ((¬ (z2 : Int32) = 8 → (post (Out_size, z1, z2, ob))) ∧ ((z2 : Int32) = 8 → (wp_Out_endByte n Out_size z1 z2 ob (fun u4 => post (u4.1, u4.2.1, u4.2.2.1, u4.2.2.2))))))
set_option maxHeartbeats 2000000 in
set_option maxRecDepth 20000 in
theorem c_Out_addBit {l : Launch} {dC : Nat → ClassId} {dI : Nat → Nat → Nat} {cI : ClassId} {tb a n : Nat → Nat} {Out_size : Int32} {Out_gathered : Int32} {Out_gatheredBits : Int32} {ob : Nat → Int32} {x1 : Int32} {post : Int32 × Int32 × Int32 × (Nat → Int32) → Prop} (h : wp_Out_addBit n Out_size Out_gathered Out_gatheredBits ob x1 post) : CtV classes dC dI cI tb l y_Out_addBit prog_3_method_10_code 2 ({ frames := 2, cells := 0, slots := 0, locals := 41 }) [.ref (a 3), .int x1] [e_Out a Out_size Out_gathered Out_gatheredBits, e_ar a n cI 11 ob] (Int32 × Int32 × Int32 × (Nat → Int32)) (fun u => [e_Out a u.1 u.2.1 u.2.2.1, e_ar a n cI 11 u.2.2.2]) post := by
  refine startV (by decide) (Nat.le_of_ble_eq_true rfl) ?_
  intro p e s m below meth c ls E hr hlk hnm hl hw
  have hl : lv_has ls 2 [(0, .ref (a 3)), (1, .int x1)] := hl
  generalize va_A [e_Out a Out_size Out_gathered Out_gatheredBits, e_ar a n cI 11 ob] s.heap.size = A at hw ⊢
  obtain ⟨hx, hb, hml, hown, hts⟩ := id E
  unfold wp_Out_addBit at h
  refine lv_aload_n hx hb d_Out_addBit_0 rfl (lv_at hl 0 rfl) ?_
  refine lv_dup hx hb d_Out_addBit_1 rfl ?_
  refine kget (v := .int Out_gathered) (T := F_Out) E hw in_Out rfl 0 2 rfl (by decide) tw125 rfl d_Out_addBit_2 ?_
  refine lv_iload_n hx hb d_Out_addBit_5 rfl (lv_at hl 1 rfl) ?_
  refine lv_aload_n hx hb d_Out_addBit_6 rfl (lv_at hl 0 rfl) ?_
  refine kget (v := .int Out_gatheredBits) (T := F_Out) E hw in_Out rfl 0 3 rfl (by decide) tw126 rfl d_Out_addBit_7 ?_
  refine lv_ishl hx hb d_Out_addBit_10 ?_
  refine lv_ior hx hb d_Out_addBit_11 ?_
  refine lv_topi (fun z1 ez1 => ?_)
  have h := h z1 ez1
  refine kput (v := .int z1) (ty := .int) (T := F_Out) (ws' := [e_Out a Out_size z1 Out_gatheredBits, e_ar a n cI 11 ob]) E hw in_Out t_Out t_Out_ok n_Out rfl 0 2 rfl (by decide) tw125 rfl rfl rfl rfl (Nat.le_of_ble_eq_true rfl) rfl d_Out_addBit_12 (fun H locs hw => ?_)
  refine lv_aload_n hx hb d_Out_addBit_15 rfl (lv_at hl 0 rfl) ?_
  refine lv_dup hx hb d_Out_addBit_16 rfl ?_
  refine kget (v := .int Out_gatheredBits) (T := F_Out) E hw in_Out rfl 0 3 rfl (by decide) tw126 rfl d_Out_addBit_17 ?_
  refine lv_iconst (v := 1) hx hb d_Out_addBit_20 (by decide) ?_
  refine lv_iadd hx hb d_Out_addBit_21 ?_
  refine lv_topi (fun z2 ez2 => ?_)
  have h := h z2 ez2
  refine kput (v := .int z2) (ty := .int) (T := F_Out) (ws' := [e_Out a Out_size z1 z2, e_ar a n cI 11 ob]) E hw in_Out t_Out t_Out_ok n_Out rfl 0 3 rfl (by decide) tw126 rfl rfl rfl rfl (Nat.le_of_ble_eq_true rfl) rfl d_Out_addBit_22 (fun H locs hw => ?_)
  refine lv_aload_n hx hb d_Out_addBit_25 rfl (lv_at hl 0 rfl) ?_
  refine kget (v := .int z2) (T := F_Out) E hw in_Out rfl 0 3 rfl (by decide) tw126 rfl d_Out_addBit_26 ?_
  refine lv_bipush (v := 8) hx hb d_Out_addBit_29 (by decide) ?_
  refine lv_icmp_ne (tgt := 38) hx hb d_Out_addBit_31 (by decide) (fun c3 => ?_) (fun c3 => ?_)
  · have h := h.1 c3
    exact retV (out := fun u => [e_Out a u.1 u.2.1 u.2.2.1, e_ar a n cI 11 u.2.2.2]) (u := (Out_size, z1, z2, ob)) E hr hlk hw h d_Out_addBit_38
  · have h := h.2 c3
    refine lv_aload_n hx hb d_Out_addBit_34 rfl (lv_at hl 0 rfl) ?_
    refine kVv (y := y_Out_endByte) (ws' := fun u4 => [e_Out a u4.1 u4.2.1 u4.2.2.1, e_ar a n cI 11 u4.2.2.2]) (wr := []) (As := []) (rest := []) E hw (c_Out_endByte (l := l) (dC := dC) (dI := dI) (cI := cI) (tb := tb) (a := a) (n := n) (Out_size := Out_size) (Out_gathered := z1) (Out_gatheredBits := z2) (ob := ob)  h) tw356 tw357 tw358 tw40 tw359 0 (by decide) ⟨Nat.le_of_ble_eq_true rfl, Nat.le_of_ble_eq_true rfl⟩ ⟨Nat.le_of_ble_eq_true rfl, Nat.le_of_ble_eq_true rfl⟩ ⟨rfl, rfl⟩ rfl rfl 0 rfl [0, 1] [] [0, 1] rfl rfl rfl rfl (by decide) rfl (fun _ => rfl) hl.1 rfl rfl (Nat.le_of_ble_eq_true rfl) d_Out_addBit_35 (fun u4 H locs h hw => ?_)
    exact retV (out := fun u => [e_Out a u.1 u.2.1 u.2.2.1, e_ar a n cI 11 u.2.2.2]) (u := (u4.1, u4.2.1, u4.2.2.1, u4.2.2.2)) E hr hlk hw h d_Out_addBit_38
-- PicturePacker$Output.addBitsHighestFirst(II)V
theorem d_Out_addBitsHighestFirst_0 : decode prog_3_method_8_code 0 = .ok (.iload_n 2, 1) := by decide +kernel
theorem d_Out_addBitsHighestFirst_1 : decode prog_3_method_8_code 1 = .ok (.iconst 1, 1) := by decide +kernel
theorem d_Out_addBitsHighestFirst_2 : decode prog_3_method_8_code 2 = .ok (.isub, 1) := by decide +kernel
theorem d_Out_addBitsHighestFirst_3 : decode prog_3_method_8_code 3 = .ok (.istore_n 3, 1) := by decide +kernel
theorem d_Out_addBitsHighestFirst_4 : decode prog_3_method_8_code 4 = .ok (.iload_n 3, 1) := by decide +kernel
theorem d_Out_addBitsHighestFirst_5 : decode prog_3_method_8_code 5 = .ok (.ifCond .lt 18, 3) := by decide +kernel
theorem d_Out_addBitsHighestFirst_8 : decode prog_3_method_8_code 8 = .ok (.aload_n 0, 1) := by decide +kernel
theorem d_Out_addBitsHighestFirst_9 : decode prog_3_method_8_code 9 = .ok (.iload_n 1, 1) := by decide +kernel
theorem d_Out_addBitsHighestFirst_10 : decode prog_3_method_8_code 10 = .ok (.iload_n 3, 1) := by decide +kernel
theorem d_Out_addBitsHighestFirst_11 : decode prog_3_method_8_code 11 = .ok (.ishr, 1) := by decide +kernel
theorem d_Out_addBitsHighestFirst_12 : decode prog_3_method_8_code 12 = .ok (.iconst 1, 1) := by decide +kernel
theorem d_Out_addBitsHighestFirst_13 : decode prog_3_method_8_code 13 = .ok (.iand, 1) := by decide +kernel
theorem d_Out_addBitsHighestFirst_14 : decode prog_3_method_8_code 14 = .ok (.invokevirtual 27, 3) := by decide +kernel
theorem d_Out_addBitsHighestFirst_17 : decode prog_3_method_8_code 17 = .ok (.iinc 3 (-1), 3) := by decide +kernel
theorem d_Out_addBitsHighestFirst_20 : decode prog_3_method_8_code 20 = .ok (.goto (-16), 3) := by decide +kernel
theorem d_Out_addBitsHighestFirst_23 : decode prog_3_method_8_code 23 = .ok (.return_, 1) := by decide +kernel
abbrev y_Out_addBitsHighestFirst : MethodName := ⟨"PicturePacker$Output", "addBitsHighestFirst", "(II)V"⟩
def wp_Out_addBitsHighestFirst_4 (n : Nat → Nat) (x1 : Int32) (x2 : Int32) (post : Int32 × Int32 × Int32 × (Nat → Int32) → Prop) : Nat → Int32 → Int32 → Int32 → (Nat → Int32) → Int32 → Prop
  | 0 => fun _ _ _ _ _ => False
  | N + 1 => fun Out_size Out_gathered Out_gatheredBits ob y3 => ((y3 : Int32) < 0 → (post (Out_size, Out_gathered, Out_gatheredBits, ob))) ∧ (¬ ((y3 : Int32) < 0) → (wp_Out_addBit n Out_size Out_gathered Out_gatheredBits ob (((x1 : Int32) >>> (y3 &&& 31)) &&& 1) (fun u3 => ∀ z5 : Int32, z5 = (y3 + (-1)) → (wp_Out_addBitsHighestFirst_4 n x1 x2 post N u3.1 u3.2.1 u3.2.2.1 u3.2.2.2 z5))))
def wp_Out_addBitsHighestFirst (n : Nat → Nat) (Out_size : Int32) (Out_gathered : Int32) (Out_gatheredBits : Int32) (ob : Nat → Int32) (x1 : Int32) (x2 : Int32) (post : Int32 × Int32 × Int32 × (Nat → Int32) → Prop) : Prop := ∀ z1 : Int32, z1 = (x2 - 1) → (∃ N6 : Nat, wp_Out_addBitsHighestFirst_4 n x1 x2 post N6 Out_size Out_gathered Out_gatheredBits ob z1)
set_option maxHeartbeats 2000000 in
set_option maxRecDepth 20000 in
theorem s_Out_addBitsHighestFirst_4 {l : Launch} {dC : Nat → ClassId} {dI : Nat → Nat → Nat} {cI : ClassId} {tb a n : Nat → Nat} {p : Program} {e : Env} {s : State} {m : MethodId} {args : Array Value} {below : List Frame} {meth : Method} {c : Code} {A : Nat → Prop} (E : CallFix p m c prog_3_method_8_code 4 s args TBL "PicturePacker$Output") (hr : meth.sig.returnType = none) (hlk : meth.locks = false) {x1 : Int32} {x2 : Int32} {post : Int32 × Int32 × Int32 × (Nat → Int32) → Prop} : ∀ (N : Nat) (Out_size : Int32) (Out_gathered : Int32) (Out_gatheredBits : Int32) (ob : Nat → Int32) (y3 : Int32) (H : Heap) (locs : List Loc) (ls : Array Slot), Wl classes dC dI cI tb A s H locs [e_Out a Out_size Out_gathered Out_gatheredBits, e_ar a n cI 11 ob] → lv_has ls 4 [(0, .ref (a 3)), (1, .int x1), (3, .int y3)] → wp_Out_addBitsHighestFirst_4 n x1 x2 post N Out_size Out_gathered Out_gatheredBits ob y3 → W p l e ({ frames := 3, cells := 0, slots := 0, locals := 62 }) s m args below meth c H locs 0 0 (MQ below (va_Qv post (fun u => End0 classes dC dI cI A [e_Out a u.1 u.2.1 u.2.2.1, e_ar a n cI 11 u.2.2.2]) A) args s 0 0 A) (F0 m 4 ls []) := by
  obtain ⟨hx, hb, hml, hown, hts⟩ := id E
  intro N
  induction N with
  | zero =>
    intro _ _ _ _ _ H locs ls hw hl h
    exact absurd h id
  | succ N ih =>
    intro Out_size Out_gathered Out_gatheredBits ob y3 H locs ls hw hl h
    unfold wp_Out_addBitsHighestFirst_4 at h
    refine lv_iload_n hx hb d_Out_addBitsHighestFirst_4 rfl (lv_at hl 2 rfl) ?_
    refine lv_if_lt (tgt := 23) hx hb d_Out_addBitsHighestFirst_5 (by decide) (fun c2 => ?_) (fun c2 => ?_)
    · have h := h.1 c2
      exact retV (out := fun u => [e_Out a u.1 u.2.1 u.2.2.1, e_ar a n cI 11 u.2.2.2]) (u := (Out_size, Out_gathered, Out_gatheredBits, ob)) E hr hlk hw h d_Out_addBitsHighestFirst_23
    · have h := h.2 c2
      refine lv_aload_n hx hb d_Out_addBitsHighestFirst_8 rfl (lv_at hl 0 rfl) ?_
      refine lv_iload_n hx hb d_Out_addBitsHighestFirst_9 rfl (lv_at hl 1 rfl) ?_
      refine lv_iload_n hx hb d_Out_addBitsHighestFirst_10 rfl (lv_at hl 2 rfl) ?_
      refine lv_ishr hx hb d_Out_addBitsHighestFirst_11 ?_
      refine lv_iconst (v := 1) hx hb d_Out_addBitsHighestFirst_12 (by decide) ?_
      refine lv_iand hx hb d_Out_addBitsHighestFirst_13 ?_
      refine kVv (y := y_Out_addBit) (ws' := fun u3 => [e_Out a u3.1 u3.2.1 u3.2.2.1, e_ar a n cI 11 u3.2.2.2]) (wr := []) (As := [.int (((x1 : Int32) >>> (y3 &&& 31)) &&& 1)]) (rest := []) E hw (c_Out_addBit (l := l) (dC := dC) (dI := dI) (cI := cI) (tb := tb) (a := a) (n := n) (Out_size := Out_size) (Out_gathered := Out_gathered) (Out_gatheredBits := Out_gatheredBits) (ob := ob) (x1 := ((x1 : Int32) >>> (y3 &&& 31)) &&& 1) h) tw352 tw354 tw6 tw40 tw355 1 (by decide) ⟨Nat.le_of_ble_eq_true rfl, Nat.le_of_ble_eq_true rfl⟩ ⟨Nat.le_of_ble_eq_true rfl, Nat.le_of_ble_eq_true rfl⟩ ⟨rfl, rfl⟩ rfl rfl 0 rfl [0, 1] [] [0, 1] rfl rfl rfl rfl (by decide) rfl (fun _ => rfl) hl.1 rfl rfl (Nat.le_of_ble_eq_true rfl) d_Out_addBitsHighestFirst_14 (fun u3 H locs h hw => ?_)
      obtain ⟨z5, ez5⟩ : ∃ z : Int32, z = y3 + (-1) := ⟨_, rfl⟩
      have h := h z5 ez5
      refine lv_iinc (v := z5) (lv' := [(3, .int z5), (0, .ref (a 3)), (1, .int x1)]) hx hb d_Out_addBitsHighestFirst_17 hl (k := 2) rfl (by rw [ez5]; exact congrArg (y3 + ·) (by decide)) (by decide) rfl (fun ls hl => ?_)
      refine lv_goto (tgt := 4) hx hb d_Out_addBitsHighestFirst_20 (by decide) ?_
      exact ih u3.1 u3.2.1 u3.2.2.1 u3.2.2.2 z5 _ _ ls hw (lv_sub hl [1, 2, 0] rfl) h
set_option maxHeartbeats 2000000 in
set_option maxRecDepth 20000 in
theorem c_Out_addBitsHighestFirst {l : Launch} {dC : Nat → ClassId} {dI : Nat → Nat → Nat} {cI : ClassId} {tb a n : Nat → Nat} {Out_size : Int32} {Out_gathered : Int32} {Out_gatheredBits : Int32} {ob : Nat → Int32} {x1 : Int32} {x2 : Int32} {post : Int32 × Int32 × Int32 × (Nat → Int32) → Prop} (h : wp_Out_addBitsHighestFirst n Out_size Out_gathered Out_gatheredBits ob x1 x2 post) : CtV classes dC dI cI tb l y_Out_addBitsHighestFirst prog_3_method_8_code 4 ({ frames := 3, cells := 0, slots := 0, locals := 62 }) [.ref (a 3), .int x1, .int x2] [e_Out a Out_size Out_gathered Out_gatheredBits, e_ar a n cI 11 ob] (Int32 × Int32 × Int32 × (Nat → Int32)) (fun u => [e_Out a u.1 u.2.1 u.2.2.1, e_ar a n cI 11 u.2.2.2]) post := by
  refine startV (by decide) (Nat.le_of_ble_eq_true rfl) ?_
  intro p e s m below meth c ls E hr hlk hnm hl hw
  have hl : lv_has ls 4 [(0, .ref (a 3)), (1, .int x1), (2, .int x2)] := hl
  generalize va_A [e_Out a Out_size Out_gathered Out_gatheredBits, e_ar a n cI 11 ob] s.heap.size = A at hw ⊢
  obtain ⟨hx, hb, hml, hown, hts⟩ := id E
  unfold wp_Out_addBitsHighestFirst at h
  refine lv_iload_n hx hb d_Out_addBitsHighestFirst_0 rfl (lv_at hl 2 rfl) ?_
  refine lv_iconst (v := 1) hx hb d_Out_addBitsHighestFirst_1 (by decide) ?_
  refine lv_isub hx hb d_Out_addBitsHighestFirst_2 ?_
  refine lv_topi (fun z1 ez1 => ?_)
  have h := h z1 ez1
  refine lv_istore_n (lv' := [(3, .int z1), (0, .ref (a 3)), (1, .int x1), (2, .int x2)]) hx hb d_Out_addBitsHighestFirst_3 rfl hl (by decide) rfl (fun ls hl => ?_)
  obtain ⟨N6, h⟩ := h
  exact s_Out_addBitsHighestFirst_4 (a := a) (n := n) (tb := tb) E hr hlk  N6 Out_size Out_gathered Out_gatheredBits ob z1 _ _ ls hw (lv_sub hl [1, 2, 0] rfl) h
-- PicturePacker$Output.addBitsLowestFirst(II)V
theorem d_Out_addBitsLowestFirst_0 : decode prog_3_method_9_code 0 = .ok (.iconst 0, 1) := by decide +kernel
theorem d_Out_addBitsLowestFirst_1 : decode prog_3_method_9_code 1 = .ok (.istore_n 3, 1) := by decide +kernel
theorem d_Out_addBitsLowestFirst_2 : decode prog_3_method_9_code 2 = .ok (.iload_n 3, 1) := by decide +kernel
theorem d_Out_addBitsLowestFirst_3 : decode prog_3_method_9_code 3 = .ok (.iload_n 2, 1) := by decide +kernel
theorem d_Out_addBitsLowestFirst_4 : decode prog_3_method_9_code 4 = .ok (.if_icmp .ge 18, 3) := by decide +kernel
theorem d_Out_addBitsLowestFirst_7 : decode prog_3_method_9_code 7 = .ok (.aload_n 0, 1) := by decide +kernel
theorem d_Out_addBitsLowestFirst_8 : decode prog_3_method_9_code 8 = .ok (.iload_n 1, 1) := by decide +kernel
theorem d_Out_addBitsLowestFirst_9 : decode prog_3_method_9_code 9 = .ok (.iload_n 3, 1) := by decide +kernel
theorem d_Out_addBitsLowestFirst_10 : decode prog_3_method_9_code 10 = .ok (.ishr, 1) := by decide +kernel
theorem d_Out_addBitsLowestFirst_11 : decode prog_3_method_9_code 11 = .ok (.iconst 1, 1) := by decide +kernel
theorem d_Out_addBitsLowestFirst_12 : decode prog_3_method_9_code 12 = .ok (.iand, 1) := by decide +kernel
theorem d_Out_addBitsLowestFirst_13 : decode prog_3_method_9_code 13 = .ok (.invokevirtual 27, 3) := by decide +kernel
theorem d_Out_addBitsLowestFirst_16 : decode prog_3_method_9_code 16 = .ok (.iinc 3 1, 3) := by decide +kernel
theorem d_Out_addBitsLowestFirst_19 : decode prog_3_method_9_code 19 = .ok (.goto (-17), 3) := by decide +kernel
theorem d_Out_addBitsLowestFirst_22 : decode prog_3_method_9_code 22 = .ok (.return_, 1) := by decide +kernel
abbrev y_Out_addBitsLowestFirst : MethodName := ⟨"PicturePacker$Output", "addBitsLowestFirst", "(II)V"⟩
def wp_Out_addBitsLowestFirst_2 (n : Nat → Nat) (x1 : Int32) (x2 : Int32) (post : Int32 × Int32 × Int32 × (Nat → Int32) → Prop) : Nat → Int32 → Int32 → Int32 → (Nat → Int32) → Int32 → Prop
  | 0 => fun _ _ _ _ _ => False
  | N + 1 => fun Out_size Out_gathered Out_gatheredBits ob y3 => ((x2 : Int32) ≤ y3 → (post (Out_size, Out_gathered, Out_gatheredBits, ob))) ∧ (¬ ((x2 : Int32) ≤ y3) → (wp_Out_addBit n Out_size Out_gathered Out_gatheredBits ob (((x1 : Int32) >>> (y3 &&& 31)) &&& 1) (fun u2 => ∀ z4 : Int32, z4 = (y3 + 1) → (wp_Out_addBitsLowestFirst_2 n x1 x2 post N u2.1 u2.2.1 u2.2.2.1 u2.2.2.2 z4))))
def wp_Out_addBitsLowestFirst (n : Nat → Nat) (Out_size : Int32) (Out_gathered : Int32) (Out_gatheredBits : Int32) (ob : Nat → Int32) (x1 : Int32) (x2 : Int32) (post : Int32 × Int32 × Int32 × (Nat → Int32) → Prop) : Prop := ∃ N5 : Nat, wp_Out_addBitsLowestFirst_2 n x1 x2 post N5 Out_size Out_gathered Out_gatheredBits ob 0
set_option maxHeartbeats 2000000 in
set_option maxRecDepth 20000 in
theorem s_Out_addBitsLowestFirst_2 {l : Launch} {dC : Nat → ClassId} {dI : Nat → Nat → Nat} {cI : ClassId} {tb a n : Nat → Nat} {p : Program} {e : Env} {s : State} {m : MethodId} {args : Array Value} {below : List Frame} {meth : Method} {c : Code} {A : Nat → Prop} (E : CallFix p m c prog_3_method_9_code 4 s args TBL "PicturePacker$Output") (hr : meth.sig.returnType = none) (hlk : meth.locks = false) {x1 : Int32} {x2 : Int32} {post : Int32 × Int32 × Int32 × (Nat → Int32) → Prop} : ∀ (N : Nat) (Out_size : Int32) (Out_gathered : Int32) (Out_gatheredBits : Int32) (ob : Nat → Int32) (y3 : Int32) (H : Heap) (locs : List Loc) (ls : Array Slot), Wl classes dC dI cI tb A s H locs [e_Out a Out_size Out_gathered Out_gatheredBits, e_ar a n cI 11 ob] → lv_has ls 4 [(0, .ref (a 3)), (1, .int x1), (2, .int x2), (3, .int y3)] → wp_Out_addBitsLowestFirst_2 n x1 x2 post N Out_size Out_gathered Out_gatheredBits ob y3 → W p l e ({ frames := 3, cells := 0, slots := 0, locals := 62 }) s m args below meth c H locs 0 0 (MQ below (va_Qv post (fun u => End0 classes dC dI cI A [e_Out a u.1 u.2.1 u.2.2.1, e_ar a n cI 11 u.2.2.2]) A) args s 0 0 A) (F0 m 2 ls []) := by
  obtain ⟨hx, hb, hml, hown, hts⟩ := id E
  intro N
  induction N with
  | zero =>
    intro _ _ _ _ _ H locs ls hw hl h
    exact absurd h id
  | succ N ih =>
    intro Out_size Out_gathered Out_gatheredBits ob y3 H locs ls hw hl h
    unfold wp_Out_addBitsLowestFirst_2 at h
    refine lv_iload_n hx hb d_Out_addBitsLowestFirst_2 rfl (lv_at hl 3 rfl) ?_
    refine lv_iload_n hx hb d_Out_addBitsLowestFirst_3 rfl (lv_at hl 2 rfl) ?_
    refine lv_icmp_ge (tgt := 22) hx hb d_Out_addBitsLowestFirst_4 (by decide) (fun c1 => ?_) (fun c1 => ?_)
    · have h := h.1 c1
      exact retV (out := fun u => [e_Out a u.1 u.2.1 u.2.2.1, e_ar a n cI 11 u.2.2.2]) (u := (Out_size, Out_gathered, Out_gatheredBits, ob)) E hr hlk hw h d_Out_addBitsLowestFirst_22
    · have h := h.2 c1
      refine lv_aload_n hx hb d_Out_addBitsLowestFirst_7 rfl (lv_at hl 0 rfl) ?_
      refine lv_iload_n hx hb d_Out_addBitsLowestFirst_8 rfl (lv_at hl 1 rfl) ?_
      refine lv_iload_n hx hb d_Out_addBitsLowestFirst_9 rfl (lv_at hl 3 rfl) ?_
      refine lv_ishr hx hb d_Out_addBitsLowestFirst_10 ?_
      refine lv_iconst (v := 1) hx hb d_Out_addBitsLowestFirst_11 (by decide) ?_
      refine lv_iand hx hb d_Out_addBitsLowestFirst_12 ?_
      refine kVv (y := y_Out_addBit) (ws' := fun u2 => [e_Out a u2.1 u2.2.1 u2.2.2.1, e_ar a n cI 11 u2.2.2.2]) (wr := []) (As := [.int (((x1 : Int32) >>> (y3 &&& 31)) &&& 1)]) (rest := []) E hw (c_Out_addBit (l := l) (dC := dC) (dI := dI) (cI := cI) (tb := tb) (a := a) (n := n) (Out_size := Out_size) (Out_gathered := Out_gathered) (Out_gatheredBits := Out_gatheredBits) (ob := ob) (x1 := ((x1 : Int32) >>> (y3 &&& 31)) &&& 1) h) tw352 tw354 tw6 tw40 tw355 1 (by decide) ⟨Nat.le_of_ble_eq_true rfl, Nat.le_of_ble_eq_true rfl⟩ ⟨Nat.le_of_ble_eq_true rfl, Nat.le_of_ble_eq_true rfl⟩ ⟨rfl, rfl⟩ rfl rfl 0 rfl [0, 1] [] [0, 1] rfl rfl rfl rfl (by decide) rfl (fun _ => rfl) hl.1 rfl rfl (Nat.le_of_ble_eq_true rfl) d_Out_addBitsLowestFirst_13 (fun u2 H locs h hw => ?_)
      obtain ⟨z4, ez4⟩ : ∃ z : Int32, z = y3 + 1 := ⟨_, rfl⟩
      have h := h z4 ez4
      refine lv_iinc (v := z4) (lv' := [(3, .int z4), (0, .ref (a 3)), (1, .int x1), (2, .int x2)]) hx hb d_Out_addBitsLowestFirst_16 hl (k := 3) rfl (by rw [ez4]; exact congrArg (y3 + ·) (by decide)) (by decide) rfl (fun ls hl => ?_)
      refine lv_goto (tgt := 2) hx hb d_Out_addBitsLowestFirst_19 (by decide) ?_
      exact ih u2.1 u2.2.1 u2.2.2.1 u2.2.2.2 z4 _ _ ls hw (lv_sub hl [1, 2, 3, 0] rfl) h
set_option maxHeartbeats 2000000 in
set_option maxRecDepth 20000 in
theorem c_Out_addBitsLowestFirst {l : Launch} {dC : Nat → ClassId} {dI : Nat → Nat → Nat} {cI : ClassId} {tb a n : Nat → Nat} {Out_size : Int32} {Out_gathered : Int32} {Out_gatheredBits : Int32} {ob : Nat → Int32} {x1 : Int32} {x2 : Int32} {post : Int32 × Int32 × Int32 × (Nat → Int32) → Prop} (h : wp_Out_addBitsLowestFirst n Out_size Out_gathered Out_gatheredBits ob x1 x2 post) : CtV classes dC dI cI tb l y_Out_addBitsLowestFirst prog_3_method_9_code 4 ({ frames := 3, cells := 0, slots := 0, locals := 62 }) [.ref (a 3), .int x1, .int x2] [e_Out a Out_size Out_gathered Out_gatheredBits, e_ar a n cI 11 ob] (Int32 × Int32 × Int32 × (Nat → Int32)) (fun u => [e_Out a u.1 u.2.1 u.2.2.1, e_ar a n cI 11 u.2.2.2]) post := by
  refine startV (by decide) (Nat.le_of_ble_eq_true rfl) ?_
  intro p e s m below meth c ls E hr hlk hnm hl hw
  have hl : lv_has ls 4 [(0, .ref (a 3)), (1, .int x1), (2, .int x2)] := hl
  generalize va_A [e_Out a Out_size Out_gathered Out_gatheredBits, e_ar a n cI 11 ob] s.heap.size = A at hw ⊢
  obtain ⟨hx, hb, hml, hown, hts⟩ := id E
  unfold wp_Out_addBitsLowestFirst at h
  refine lv_iconst (v := 0) hx hb d_Out_addBitsLowestFirst_0 (by decide) ?_
  refine lv_istore_n (lv' := [(3, .int 0), (0, .ref (a 3)), (1, .int x1), (2, .int x2)]) hx hb d_Out_addBitsLowestFirst_1 rfl hl (by decide) rfl (fun ls hl => ?_)
  obtain ⟨N5, h⟩ := h
  exact s_Out_addBitsLowestFirst_2 (a := a) (n := n) (tb := tb) E hr hlk  N5 Out_size Out_gathered Out_gatheredBits ob 0 _ _ ls hw (lv_sub hl [1, 2, 3, 0] rfl) h
-- PicturePacker$Output.restart()V
theorem d_Out_restart_0 : decode prog_3_method_3_code 0 = .ok (.aload_n 0, 1) := by decide +kernel
theorem d_Out_restart_1 : decode prog_3_method_3_code 1 = .ok (.iconst 0, 1) := by decide +kernel
theorem d_Out_restart_2 : decode prog_3_method_3_code 2 = .ok (.putfield 13, 3) := by decide +kernel
theorem d_Out_restart_5 : decode prog_3_method_3_code 5 = .ok (.aload_n 0, 1) := by decide +kernel
theorem d_Out_restart_6 : decode prog_3_method_3_code 6 = .ok (.iconst 0, 1) := by decide +kernel
theorem d_Out_restart_7 : decode prog_3_method_3_code 7 = .ok (.putfield 17, 3) := by decide +kernel
theorem d_Out_restart_10 : decode prog_3_method_3_code 10 = .ok (.aload_n 0, 1) := by decide +kernel
theorem d_Out_restart_11 : decode prog_3_method_3_code 11 = .ok (.iconst 0, 1) := by decide +kernel
theorem d_Out_restart_12 : decode prog_3_method_3_code 12 = .ok (.putfield 20, 3) := by decide +kernel
theorem d_Out_restart_15 : decode prog_3_method_3_code 15 = .ok (.return_, 1) := by decide +kernel
abbrev y_Out_restart : MethodName := ⟨"PicturePacker$Output", "restart", "()V"⟩
def wp_Out_restart (n : Nat → Nat) (Out_size : Int32) (Out_gathered : Int32) (Out_gatheredBits : Int32) (post : Int32 × Int32 × Int32 → Prop) : Prop := post (0, 0, 0)
set_option maxHeartbeats 2000000 in
set_option maxRecDepth 20000 in
theorem c_Out_restart {l : Launch} {dC : Nat → ClassId} {dI : Nat → Nat → Nat} {cI : ClassId} {tb a n : Nat → Nat} {Out_size : Int32} {Out_gathered : Int32} {Out_gatheredBits : Int32} {post : Int32 × Int32 × Int32 → Prop} (h : wp_Out_restart n Out_size Out_gathered Out_gatheredBits post) : CtV classes dC dI cI tb l y_Out_restart prog_3_method_3_code 1 ({ frames := 0, cells := 0, slots := 0, locals := 0 }) [.ref (a 3)] [e_Out a Out_size Out_gathered Out_gatheredBits] (Int32 × Int32 × Int32) (fun u => [e_Out a u.1 u.2.1 u.2.2]) post := by
  refine startV (by decide) (Nat.le_of_ble_eq_true rfl) ?_
  intro p e s m below meth c ls E hr hlk hnm hl hw
  have hl : lv_has ls 1 [(0, .ref (a 3))] := hl
  generalize va_A [e_Out a Out_size Out_gathered Out_gatheredBits] s.heap.size = A at hw ⊢
  obtain ⟨hx, hb, hml, hown, hts⟩ := id E
  unfold wp_Out_restart at h
  refine lv_aload_n hx hb d_Out_restart_0 rfl (lv_at hl 0 rfl) ?_
  refine lv_iconst (v := 0) hx hb d_Out_restart_1 (by decide) ?_
  refine kput (v := .int 0) (ty := .int) (T := F_Out) (ws' := [e_Out a 0 Out_gathered Out_gatheredBits]) E hw in_Out t_Out t_Out_ok n_Out rfl 0 1 rfl (by decide) tw122 rfl rfl rfl rfl (Nat.le_of_ble_eq_true rfl) rfl d_Out_restart_2 (fun H locs hw => ?_)
  refine lv_aload_n hx hb d_Out_restart_5 rfl (lv_at hl 0 rfl) ?_
  refine lv_iconst (v := 0) hx hb d_Out_restart_6 (by decide) ?_
  refine kput (v := .int 0) (ty := .int) (T := F_Out) (ws' := [e_Out a 0 0 Out_gatheredBits]) E hw in_Out t_Out t_Out_ok n_Out rfl 0 2 rfl (by decide) tw125 rfl rfl rfl rfl (Nat.le_of_ble_eq_true rfl) rfl d_Out_restart_7 (fun H locs hw => ?_)
  refine lv_aload_n hx hb d_Out_restart_10 rfl (lv_at hl 0 rfl) ?_
  refine lv_iconst (v := 0) hx hb d_Out_restart_11 (by decide) ?_
  refine kput (v := .int 0) (ty := .int) (T := F_Out) (ws' := [e_Out a 0 0 0]) E hw in_Out t_Out t_Out_ok n_Out rfl 0 3 rfl (by decide) tw126 rfl rfl rfl rfl (Nat.le_of_ble_eq_true rfl) rfl d_Out_restart_12 (fun H locs hw => ?_)
  exact retV (out := fun u => [e_Out a u.1 u.2.1 u.2.2]) (u := (0, 0, 0)) E hr hlk hw h d_Out_restart_15
-- PicturePacker$Output.addAll([I)V
theorem d_Out_addAll_0 : decode prog_3_method_5_code 0 = .ok (.iconst 0, 1) := by decide +kernel
theorem d_Out_addAll_1 : decode prog_3_method_5_code 1 = .ok (.istore_n 2, 1) := by decide +kernel
theorem d_Out_addAll_2 : decode prog_3_method_5_code 2 = .ok (.iload_n 2, 1) := by decide +kernel
theorem d_Out_addAll_3 : decode prog_3_method_5_code 3 = .ok (.aload_n 1, 1) := by decide +kernel
theorem d_Out_addAll_4 : decode prog_3_method_5_code 4 = .ok (.arraylength, 1) := by decide +kernel
theorem d_Out_addAll_5 : decode prog_3_method_5_code 5 = .ok (.if_icmp .ge 16, 3) := by decide +kernel
theorem d_Out_addAll_8 : decode prog_3_method_5_code 8 = .ok (.aload_n 0, 1) := by decide +kernel
theorem d_Out_addAll_9 : decode prog_3_method_5_code 9 = .ok (.aload_n 1, 1) := by decide +kernel
theorem d_Out_addAll_10 : decode prog_3_method_5_code 10 = .ok (.iload_n 2, 1) := by decide +kernel
theorem d_Out_addAll_11 : decode prog_3_method_5_code 11 = .ok (.iaload, 1) := by decide +kernel
theorem d_Out_addAll_12 : decode prog_3_method_5_code 12 = .ok (.invokevirtual 23, 3) := by decide +kernel
theorem d_Out_addAll_15 : decode prog_3_method_5_code 15 = .ok (.iinc 2 1, 3) := by decide +kernel
theorem d_Out_addAll_18 : decode prog_3_method_5_code 18 = .ok (.goto (-16), 3) := by decide +kernel
theorem d_Out_addAll_21 : decode prog_3_method_5_code 21 = .ok (.return_, 1) := by decide +kernel
abbrev y_Out_addAll : MethodName := ⟨"PicturePacker$Output", "addAll", "([I)V"⟩
def wp_Out_addAll_2 (n : Nat → Nat) (K : Nat) (post : Int32 × (Nat → Int32) → Prop) : Nat → Int32 → (Nat → Int32) → Int32 → Prop
  | 0 => fun _ _ _ => False
  | N + 1 => fun Out_size ob y2 => ((nI (tN K) : Int32) ≤ y2 → (post (Out_size, ob))) ∧ (¬ ((nI (tN K) : Int32) ≤ y2) → (vp_in y2 (tN K) ∧ (wp_Out_addByte n Out_size ob (tF K (y2 : Int32).toNatClampNeg) (fun u3 => ∀ z5 : Int32, z5 = (y2 + 1) → (wp_Out_addAll_2 n K post N u3.1 u3.2 z5)))))
def wp_Out_addAll (n : Nat → Nat) (K : Nat) (Out_size : Int32) (ob : Nat → Int32) (post : Int32 × (Nat → Int32) → Prop) : Prop := ∃ N6 : Nat, wp_Out_addAll_2 n K post N6 Out_size ob 0
set_option maxHeartbeats 2000000 in
set_option maxRecDepth 20000 in
theorem s_Out_addAll_2 {l : Launch} {dC : Nat → ClassId} {dI : Nat → Nat → Nat} {cI : ClassId} {tb a n : Nat → Nat} {p : Program} {e : Env} {s : State} {m : MethodId} {args : Array Value} {below : List Frame} {meth : Method} {c : Code} {A : Nat → Prop} (E : CallFix p m c prog_3_method_5_code 3 s args TBL "PicturePacker$Output") (hr : meth.sig.returnType = none) (hlk : meth.locks = false) {K : Nat} (hK2 : K < 2) {Out_gathered : Int32} {Out_gatheredBits : Int32} {post : Int32 × (Nat → Int32) → Prop} : ∀ (N : Nat) (Out_size : Int32) (ob : Nat → Int32) (y2 : Int32) (H : Heap) (locs : List Loc) (ls : Array Slot), Wl classes dC dI cI tb A s H locs [e_Out a Out_size Out_gathered Out_gatheredBits, e_ar a n cI 11 ob] → lv_has ls 3 [(0, .ref (a 3)), (1, .ref (tb K)), (2, .int y2)] → wp_Out_addAll_2 n K post N Out_size ob y2 → W p l e ({ frames := 1, cells := 0, slots := 0, locals := 21 }) s m args below meth c H locs 0 0 (MQ below (va_Qv post (fun u => End0 classes dC dI cI A [e_Out a u.1 Out_gathered Out_gatheredBits, e_ar a n cI 11 u.2]) A) args s 0 0 A) (F0 m 2 ls []) := by
  obtain ⟨hx, hb, hml, hown, hts⟩ := id E
  intro N
  induction N with
  | zero =>
    intro _ _ _ H locs ls hw hl h
    exact absurd h id
  | succ N ih =>
    intro Out_size ob y2 H locs ls hw hl h
    unfold wp_Out_addAll_2 at h
    refine lv_iload_n hx hb d_Out_addAll_2 rfl (lv_at hl 2 rfl) ?_
    refine lv_aload_n hx hb d_Out_addAll_3 rfl (lv_at hl 1 rfl) ?_
    refine ktlen E hw hK2 d_Out_addAll_4 ?_
    refine lv_icmp_ge (tgt := 21) hx hb d_Out_addAll_5 (by decide) (fun c1 => ?_) (fun c1 => ?_)
    · have h := h.1 c1
      exact retV (out := fun u => [e_Out a u.1 Out_gathered Out_gatheredBits, e_ar a n cI 11 u.2]) (u := (Out_size, ob)) E hr hlk hw h d_Out_addAll_21
    · have h := h.2 c1
      refine lv_aload_n hx hb d_Out_addAll_8 rfl (lv_at hl 0 rfl) ?_
      refine lv_aload_n hx hb d_Out_addAll_9 rfl (lv_at hl 1 rfl) ?_
      refine lv_iload_n hx hb d_Out_addAll_10 rfl (lv_at hl 2 rfl) ?_
      obtain ⟨b2, h⟩ := h
      refine ktld E hw hK2 b2 d_Out_addAll_11 ?_
      refine kVv (y := y_Out_addByte) (ws' := fun u3 => [e_Out a u3.1 Out_gathered Out_gatheredBits, e_ar a n cI 11 u3.2]) (wr := []) (As := [.int (tF K (y2 : Int32).toNatClampNeg)]) (rest := []) E hw (c_Out_addByte (l := l) (dC := dC) (dI := dI) (cI := cI) (tb := tb) (a := a) (n := n) (Out_size := Out_size) (Out_gathered := Out_gathered) (Out_gatheredBits := Out_gatheredBits) (ob := ob) (x1 := tF K (y2 : Int32).toNatClampNeg) h) tw300 tw301 tw302 tw40 tw303 1 (by decide) ⟨Nat.le_of_ble_eq_true rfl, Nat.le_of_ble_eq_true rfl⟩ ⟨Nat.le_of_ble_eq_true rfl, Nat.le_of_ble_eq_true rfl⟩ ⟨rfl, rfl⟩ rfl rfl 0 rfl [0, 1] [] [0, 1] rfl rfl rfl rfl (by decide) rfl (fun _ => rfl) hl.1 rfl rfl (Nat.le_of_ble_eq_true rfl) d_Out_addAll_12 (fun u3 H locs h hw => ?_)
      obtain ⟨z5, ez5⟩ : ∃ z : Int32, z = y2 + 1 := ⟨_, rfl⟩
      have h := h z5 ez5
      refine lv_iinc (v := z5) (lv' := [(2, .int z5), (0, .ref (a 3)), (1, .ref (tb K))]) hx hb d_Out_addAll_15 hl (k := 2) rfl (by rw [ez5]; exact congrArg (y2 + ·) (by decide)) (by decide) rfl (fun ls hl => ?_)
      refine lv_goto (tgt := 2) hx hb d_Out_addAll_18 (by decide) ?_
      exact ih u3.1 u3.2 z5 _ _ ls hw (lv_sub hl [1, 2, 0] rfl) h
set_option maxHeartbeats 2000000 in
set_option maxRecDepth 20000 in
theorem c_Out_addAll {l : Launch} {dC : Nat → ClassId} {dI : Nat → Nat → Nat} {cI : ClassId} {tb a n : Nat → Nat} {K : Nat} (hK2 : K < 2) {Out_size : Int32} {Out_gathered : Int32} {Out_gatheredBits : Int32} {ob : Nat → Int32} {post : Int32 × (Nat → Int32) → Prop} (h : wp_Out_addAll n K Out_size ob post) : CtV classes dC dI cI tb l y_Out_addAll prog_3_method_5_code 3 ({ frames := 1, cells := 0, slots := 0, locals := 21 }) [.ref (a 3), .ref (tb K)] [e_Out a Out_size Out_gathered Out_gatheredBits, e_ar a n cI 11 ob] (Int32 × (Nat → Int32)) (fun u => [e_Out a u.1 Out_gathered Out_gatheredBits, e_ar a n cI 11 u.2]) post := by
  refine startV (by decide) (Nat.le_of_ble_eq_true rfl) ?_
  intro p e s m below meth c ls E hr hlk hnm hl hw
  have hl : lv_has ls 3 [(0, .ref (a 3)), (1, .ref (tb K))] := hl
  generalize va_A [e_Out a Out_size Out_gathered Out_gatheredBits, e_ar a n cI 11 ob] s.heap.size = A at hw ⊢
  obtain ⟨hx, hb, hml, hown, hts⟩ := id E
  unfold wp_Out_addAll at h
  refine lv_iconst (v := 0) hx hb d_Out_addAll_0 (by decide) ?_
  refine lv_istore_n (lv' := [(2, .int 0), (0, .ref (a 3)), (1, .ref (tb K))]) hx hb d_Out_addAll_1 rfl hl (by decide) rfl (fun ls hl => ?_)
  obtain ⟨N6, h⟩ := h
  exact s_Out_addAll_2 (a := a) (n := n) (tb := tb) E hr hlk hK2  N6 Out_size ob 0 _ _ ls hw (lv_sub hl [1, 2, 0] rfl) h
-- PicturePacker$Output.addNumber(I)V
theorem d_Out_addNumber_0 : decode prog_3_method_6_code 0 = .ok (.bipush 24, 2) := by decide +kernel
theorem d_Out_addNumber_2 : decode prog_3_method_6_code 2 = .ok (.istore_n 2, 1) := by decide +kernel
theorem d_Out_addNumber_3 : decode prog_3_method_6_code 3 = .ok (.iload_n 2, 1) := by decide +kernel
theorem d_Out_addNumber_4 : decode prog_3_method_6_code 4 = .ok (.ifCond .lt 16, 3) := by decide +kernel
theorem d_Out_addNumber_7 : decode prog_3_method_6_code 7 = .ok (.aload_n 0, 1) := by decide +kernel
theorem d_Out_addNumber_8 : decode prog_3_method_6_code 8 = .ok (.iload_n 1, 1) := by decide +kernel
theorem d_Out_addNumber_9 : decode prog_3_method_6_code 9 = .ok (.iload_n 2, 1) := by decide +kernel
theorem d_Out_addNumber_10 : decode prog_3_method_6_code 10 = .ok (.iushr, 1) := by decide +kernel
theorem d_Out_addNumber_11 : decode prog_3_method_6_code 11 = .ok (.invokevirtual 23, 3) := by decide +kernel
theorem d_Out_addNumber_14 : decode prog_3_method_6_code 14 = .ok (.iinc 2 (-8), 3) := by decide +kernel
theorem d_Out_addNumber_17 : decode prog_3_method_6_code 17 = .ok (.goto (-14), 3) := by decide +kernel
theorem d_Out_addNumber_20 : decode prog_3_method_6_code 20 = .ok (.return_, 1) := by decide +kernel
abbrev y_Out_addNumber : MethodName := ⟨"PicturePacker$Output", "addNumber", "(I)V"⟩
def wp_Out_addNumber_3 (n : Nat → Nat) (x1 : Int32) (post : Int32 × (Nat → Int32) → Prop) : Nat → Int32 → (Nat → Int32) → Int32 → Prop
  | 0 => fun _ _ _ => False
  | N + 1 => fun Out_size ob y2 => ((y2 : Int32) < 0 → (post (Out_size, ob))) ∧ (¬ ((y2 : Int32) < 0) → (wp_Out_addByte n Out_size ob (((x1 : Int32).toUInt32 >>> ((y2 : Int32).toUInt32 &&& Int32.toUInt32 31)).toInt32) (fun u2 => ∀ z4 : Int32, z4 = (y2 + (-8)) → (wp_Out_addNumber_3 n x1 post N u2.1 u2.2 z4))))
def wp_Out_addNumber (n : Nat → Nat) (Out_size : Int32) (ob : Nat → Int32) (x1 : Int32) (post : Int32 × (Nat → Int32) → Prop) : Prop := ∃ N5 : Nat, wp_Out_addNumber_3 n x1 post N5 Out_size ob 24
set_option maxHeartbeats 2000000 in
set_option maxRecDepth 20000 in
theorem s_Out_addNumber_3 {l : Launch} {dC : Nat → ClassId} {dI : Nat → Nat → Nat} {cI : ClassId} {tb a n : Nat → Nat} {p : Program} {e : Env} {s : State} {m : MethodId} {args : Array Value} {below : List Frame} {meth : Method} {c : Code} {A : Nat → Prop} (E : CallFix p m c prog_3_method_6_code 3 s args TBL "PicturePacker$Output") (hr : meth.sig.returnType = none) (hlk : meth.locks = false) {Out_gathered : Int32} {Out_gatheredBits : Int32} {x1 : Int32} {post : Int32 × (Nat → Int32) → Prop} : ∀ (N : Nat) (Out_size : Int32) (ob : Nat → Int32) (y2 : Int32) (H : Heap) (locs : List Loc) (ls : Array Slot), Wl classes dC dI cI tb A s H locs [e_Out a Out_size Out_gathered Out_gatheredBits, e_ar a n cI 11 ob] → lv_has ls 3 [(0, .ref (a 3)), (1, .int x1), (2, .int y2)] → wp_Out_addNumber_3 n x1 post N Out_size ob y2 → W p l e ({ frames := 1, cells := 0, slots := 0, locals := 21 }) s m args below meth c H locs 0 0 (MQ below (va_Qv post (fun u => End0 classes dC dI cI A [e_Out a u.1 Out_gathered Out_gatheredBits, e_ar a n cI 11 u.2]) A) args s 0 0 A) (F0 m 3 ls []) := by
  obtain ⟨hx, hb, hml, hown, hts⟩ := id E
  intro N
  induction N with
  | zero =>
    intro _ _ _ H locs ls hw hl h
    exact absurd h id
  | succ N ih =>
    intro Out_size ob y2 H locs ls hw hl h
    unfold wp_Out_addNumber_3 at h
    refine lv_iload_n hx hb d_Out_addNumber_3 rfl (lv_at hl 2 rfl) ?_
    refine lv_if_lt (tgt := 20) hx hb d_Out_addNumber_4 (by decide) (fun c1 => ?_) (fun c1 => ?_)
    · have h := h.1 c1
      exact retV (out := fun u => [e_Out a u.1 Out_gathered Out_gatheredBits, e_ar a n cI 11 u.2]) (u := (Out_size, ob)) E hr hlk hw h d_Out_addNumber_20
    · have h := h.2 c1
      refine lv_aload_n hx hb d_Out_addNumber_7 rfl (lv_at hl 0 rfl) ?_
      refine lv_iload_n hx hb d_Out_addNumber_8 rfl (lv_at hl 1 rfl) ?_
      refine lv_iload_n hx hb d_Out_addNumber_9 rfl (lv_at hl 2 rfl) ?_
      refine lv_iushr (v := ((x1 : Int32).toUInt32 >>> ((y2 : Int32).toUInt32 &&& Int32.toUInt32 31)).toInt32) hx hb d_Out_addNumber_10 rfl ?_
      refine kVv (y := y_Out_addByte) (ws' := fun u2 => [e_Out a u2.1 Out_gathered Out_gatheredBits, e_ar a n cI 11 u2.2]) (wr := []) (As := [.int (((x1 : Int32).toUInt32 >>> ((y2 : Int32).toUInt32 &&& Int32.toUInt32 31)).toInt32)]) (rest := []) E hw (c_Out_addByte (l := l) (dC := dC) (dI := dI) (cI := cI) (tb := tb) (a := a) (n := n) (Out_size := Out_size) (Out_gathered := Out_gathered) (Out_gatheredBits := Out_gatheredBits) (ob := ob) (x1 := ((x1 : Int32).toUInt32 >>> ((y2 : Int32).toUInt32 &&& Int32.toUInt32 31)).toInt32) h) tw300 tw301 tw302 tw40 tw303 1 (by decide) ⟨Nat.le_of_ble_eq_true rfl, Nat.le_of_ble_eq_true rfl⟩ ⟨Nat.le_of_ble_eq_true rfl, Nat.le_of_ble_eq_true rfl⟩ ⟨rfl, rfl⟩ rfl rfl 0 rfl [0, 1] [] [0, 1] rfl rfl rfl rfl (by decide) rfl (fun _ => rfl) hl.1 rfl rfl (Nat.le_of_ble_eq_true rfl) d_Out_addNumber_11 (fun u2 H locs h hw => ?_)
      obtain ⟨z4, ez4⟩ : ∃ z : Int32, z = y2 + (-8) := ⟨_, rfl⟩
      have h := h z4 ez4
      refine lv_iinc (v := z4) (lv' := [(2, .int z4), (0, .ref (a 3)), (1, .int x1)]) hx hb d_Out_addNumber_14 hl (k := 2) rfl (by rw [ez4]; exact congrArg (y2 + ·) (by decide)) (by decide) rfl (fun ls hl => ?_)
      refine lv_goto (tgt := 3) hx hb d_Out_addNumber_17 (by decide) ?_
      exact ih u2.1 u2.2 z4 _ _ ls hw (lv_sub hl [1, 2, 0] rfl) h
set_option maxHeartbeats 2000000 in
set_option maxRecDepth 20000 in
theorem c_Out_addNumber {l : Launch} {dC : Nat → ClassId} {dI : Nat → Nat → Nat} {cI : ClassId} {tb a n : Nat → Nat} {Out_size : Int32} {Out_gathered : Int32} {Out_gatheredBits : Int32} {ob : Nat → Int32} {x1 : Int32} {post : Int32 × (Nat → Int32) → Prop} (h : wp_Out_addNumber n Out_size ob x1 post) : CtV classes dC dI cI tb l y_Out_addNumber prog_3_method_6_code 3 ({ frames := 1, cells := 0, slots := 0, locals := 21 }) [.ref (a 3), .int x1] [e_Out a Out_size Out_gathered Out_gatheredBits, e_ar a n cI 11 ob] (Int32 × (Nat → Int32)) (fun u => [e_Out a u.1 Out_gathered Out_gatheredBits, e_ar a n cI 11 u.2]) post := by
  refine startV (by decide) (Nat.le_of_ble_eq_true rfl) ?_
  intro p e s m below meth c ls E hr hlk hnm hl hw
  have hl : lv_has ls 3 [(0, .ref (a 3)), (1, .int x1)] := hl
  generalize va_A [e_Out a Out_size Out_gathered Out_gatheredBits, e_ar a n cI 11 ob] s.heap.size = A at hw ⊢
  obtain ⟨hx, hb, hml, hown, hts⟩ := id E
  unfold wp_Out_addNumber at h
  refine lv_bipush (v := 24) hx hb d_Out_addNumber_0 (by decide) ?_
  refine lv_istore_n (lv' := [(2, .int 24), (0, .ref (a 3)), (1, .int x1)]) hx hb d_Out_addNumber_2 rfl hl (by decide) rfl (fun ls hl => ?_)
  obtain ⟨N5, h⟩ := h
  exact s_Out_addNumber_3 (a := a) (n := n) (tb := tb) E hr hlk  N5 Out_size ob 24 _ _ ls hw (lv_sub hl [1, 2, 0] rfl) h
-- PicturePacker$Output.changeNumber(II)V
theorem d_Out_changeNumber_0 : decode prog_3_method_7_code 0 = .ok (.iload_n 1, 1) := by decide +kernel
theorem d_Out_changeNumber_1 : decode prog_3_method_7_code 1 = .ok (.ifCond .lt 14, 3) := by decide +kernel
theorem d_Out_changeNumber_4 : decode prog_3_method_7_code 4 = .ok (.iload_n 1, 1) := by decide +kernel
theorem d_Out_changeNumber_5 : decode prog_3_method_7_code 5 = .ok (.aload_n 0, 1) := by decide +kernel
theorem d_Out_changeNumber_6 : decode prog_3_method_7_code 6 = .ok (.getfield 7, 3) := by decide +kernel
theorem d_Out_changeNumber_9 : decode prog_3_method_7_code 9 = .ok (.arraylength, 1) := by decide +kernel
theorem d_Out_changeNumber_10 : decode prog_3_method_7_code 10 = .ok (.iconst 3, 1) := by decide +kernel
theorem d_Out_changeNumber_11 : decode prog_3_method_7_code 11 = .ok (.isub, 1) := by decide +kernel
theorem d_Out_changeNumber_12 : decode prog_3_method_7_code 12 = .ok (.if_icmp .lt 4, 3) := by decide +kernel
theorem d_Out_changeNumber_15 : decode prog_3_method_7_code 15 = .ok (.return_, 1) := by decide +kernel
theorem d_Out_changeNumber_16 : decode prog_3_method_7_code 16 = .ok (.iconst 0, 1) := by decide +kernel
theorem d_Out_changeNumber_17 : decode prog_3_method_7_code 17 = .ok (.istore_n 3, 1) := by decide +kernel
theorem d_Out_changeNumber_18 : decode prog_3_method_7_code 18 = .ok (.iload_n 3, 1) := by decide +kernel
theorem d_Out_changeNumber_19 : decode prog_3_method_7_code 19 = .ok (.iconst 4, 1) := by decide +kernel
theorem d_Out_changeNumber_20 : decode prog_3_method_7_code 20 = .ok (.if_icmp .ge 30, 3) := by decide +kernel
theorem d_Out_changeNumber_23 : decode prog_3_method_7_code 23 = .ok (.aload_n 0, 1) := by decide +kernel
theorem d_Out_changeNumber_24 : decode prog_3_method_7_code 24 = .ok (.getfield 7, 3) := by decide +kernel
theorem d_Out_changeNumber_27 : decode prog_3_method_7_code 27 = .ok (.iload_n 1, 1) := by decide +kernel
theorem d_Out_changeNumber_28 : decode prog_3_method_7_code 28 = .ok (.iload_n 3, 1) := by decide +kernel
theorem d_Out_changeNumber_29 : decode prog_3_method_7_code 29 = .ok (.iadd, 1) := by decide +kernel
theorem d_Out_changeNumber_30 : decode prog_3_method_7_code 30 = .ok (.iload_n 2, 1) := by decide +kernel
theorem d_Out_changeNumber_31 : decode prog_3_method_7_code 31 = .ok (.bipush 24, 2) := by decide +kernel
theorem d_Out_changeNumber_33 : decode prog_3_method_7_code 33 = .ok (.bipush 8, 2) := by decide +kernel
theorem d_Out_changeNumber_35 : decode prog_3_method_7_code 35 = .ok (.iload_n 3, 1) := by decide +kernel
theorem d_Out_changeNumber_36 : decode prog_3_method_7_code 36 = .ok (.imul, 1) := by decide +kernel
theorem d_Out_changeNumber_37 : decode prog_3_method_7_code 37 = .ok (.isub, 1) := by decide +kernel
theorem d_Out_changeNumber_38 : decode prog_3_method_7_code 38 = .ok (.iushr, 1) := by decide +kernel
theorem d_Out_changeNumber_39 : decode prog_3_method_7_code 39 = .ok (.sipush 255, 3) := by decide +kernel
theorem d_Out_changeNumber_42 : decode prog_3_method_7_code 42 = .ok (.iand, 1) := by decide +kernel
theorem d_Out_changeNumber_43 : decode prog_3_method_7_code 43 = .ok (.iastore, 1) := by decide +kernel
theorem d_Out_changeNumber_44 : decode prog_3_method_7_code 44 = .ok (.iinc 3 1, 3) := by decide +kernel
theorem d_Out_changeNumber_47 : decode prog_3_method_7_code 47 = .ok (.goto (-29), 3) := by decide +kernel
theorem d_Out_changeNumber_50 : decode prog_3_method_7_code 50 = .ok (.return_, 1) := by decide +kernel
abbrev y_Out_changeNumber : MethodName := ⟨"PicturePacker$Output", "changeNumber", "(II)V"⟩
def wp_Out_changeNumber_18 (n : Nat → Nat) (x1 : Int32) (x2 : Int32) (post : ((Nat → Int32)) → Prop) : Nat → (Nat → Int32) → Int32 → Prop
  | 0 => fun _ _ => False
  | N + 1 => fun ob y3 => ((4 : Int32) ≤ y3 → (post ob)) ∧ (¬ ((4 : Int32) ≤ y3) → (∀ z4 : Int32, z4 = ((((x2 : Int32).toUInt32 >>> ((24 - (8 * y3) : Int32).toUInt32 &&& Int32.toUInt32 31)).toInt32) &&& 255) → (vp_in (x1 + y3) (n 11) ∧ (∀ f6 : Nat → Int32, f6 = upd ob (x1 + y3 : Int32).toNatClampNeg z4 → (∀ z7 : Int32, z7 = (y3 + 1) → (wp_Out_changeNumber_18 n x1 x2 post N f6 z7))))))
def wp_Out_changeNumber (n : Nat → Nat) (ob : Nat → Int32) (x1 : Int32) (x2 : Int32) (post : ((Nat → Int32)) → Prop) : Prop := ((x1 : Int32) < 0 → (post ob)) ∧ (¬ ((x1 : Int32) < 0) → (((x1 : Int32) < ((nI (n 11)) - 3) → (∃ N8 : Nat, wp_Out_changeNumber_18 n x1 x2 post N8 ob 0)) ∧ (¬ ((x1 : Int32) < ((nI (n 11)) - 3)) → (post ob))))
set_option maxHeartbeats 2000000 in
set_option maxRecDepth 20000 in
theorem s_Out_changeNumber_18 {l : Launch} {dC : Nat → ClassId} {dI : Nat → Nat → Nat} {cI : ClassId} {tb a n : Nat → Nat} {p : Program} {e : Env} {s : State} {m : MethodId} {args : Array Value} {below : List Frame} {meth : Method} {c : Code} {A : Nat → Prop} (E : CallFix p m c prog_3_method_7_code 4 s args TBL "PicturePacker$Output") (hr : meth.sig.returnType = none) (hlk : meth.locks = false) {Out_size : Int32} {Out_gathered : Int32} {Out_gatheredBits : Int32} {x1 : Int32} {x2 : Int32} {post : ((Nat → Int32)) → Prop} : ∀ (N : Nat) (ob : Nat → Int32) (y3 : Int32) (H : Heap) (locs : List Loc) (ls : Array Slot), Wl classes dC dI cI tb A s H locs [e_Out a Out_size Out_gathered Out_gatheredBits, e_ar a n cI 11 ob] → lv_has ls 4 [(0, .ref (a 3)), (1, .int x1), (2, .int x2), (3, .int y3)] → wp_Out_changeNumber_18 n x1 x2 post N ob y3 → W p l e ({ frames := 0, cells := 0, slots := 0, locals := 0 }) s m args below meth c H locs 0 0 (MQ below (va_Qv post (fun u => End0 classes dC dI cI A [e_Out a Out_size Out_gathered Out_gatheredBits, e_ar a n cI 11 u]) A) args s 0 0 A) (F0 m 18 ls []) := by
  obtain ⟨hx, hb, hml, hown, hts⟩ := id E
  intro N
  induction N with
  | zero =>
    intro _ _ H locs ls hw hl h
    exact absurd h id
  | succ N ih =>
    intro ob y3 H locs ls hw hl h
    unfold wp_Out_changeNumber_18 at h
    refine lv_iload_n hx hb d_Out_changeNumber_18 rfl (lv_at hl 3 rfl) ?_
    refine lv_iconst (v := 4) hx hb d_Out_changeNumber_19 (by decide) ?_
    refine lv_icmp_ge (tgt := 50) hx hb d_Out_changeNumber_20 (by decide) (fun c3 => ?_) (fun c3 => ?_)
    · have h := h.1 c3
      exact retV (out := fun u => [e_Out a Out_size Out_gathered Out_gatheredBits, e_ar a n cI 11 u]) (u := ob) E hr hlk hw h d_Out_changeNumber_50
    · have h := h.2 c3
      refine lv_aload_n hx hb d_Out_changeNumber_23 rfl (lv_at hl 0 rfl) ?_
      refine kget (v := .ref (a 11)) (T := F_Out) E hw in_Out rfl 0 0 rfl (by decide) tw119 rfl d_Out_changeNumber_24 ?_
      refine lv_iload_n hx hb d_Out_changeNumber_27 rfl (lv_at hl 1 rfl) ?_
      refine lv_iload_n hx hb d_Out_changeNumber_28 rfl (lv_at hl 3 rfl) ?_
      refine lv_iadd hx hb d_Out_changeNumber_29 ?_
      refine lv_iload_n hx hb d_Out_changeNumber_30 rfl (lv_at hl 2 rfl) ?_
      refine lv_bipush (v := 24) hx hb d_Out_changeNumber_31 (by decide) ?_
      refine lv_bipush (v := 8) hx hb d_Out_changeNumber_33 (by decide) ?_
      refine lv_iload_n hx hb d_Out_changeNumber_35 rfl (lv_at hl 3 rfl) ?_
      refine lv_imul hx hb d_Out_changeNumber_36 ?_
      refine lv_isub hx hb d_Out_changeNumber_37 ?_
      refine lv_iushr (v := ((x2 : Int32).toUInt32 >>> ((24 - (8 * y3) : Int32).toUInt32 &&& Int32.toUInt32 31)).toInt32) hx hb d_Out_changeNumber_38 rfl ?_
      refine lv_sipush (v := 255) hx hb d_Out_changeNumber_39 (by decide) ?_
      refine lv_iand hx hb d_Out_changeNumber_42 ?_
      refine lv_topi (fun z4 ez4 => ?_)
      have h := h z4 ez4
      obtain ⟨b5, h⟩ := h
      obtain ⟨f6, ef6⟩ : ∃ z : Nat → Int32, z = upd ob (x1 + y3 : Int32).toNatClampNeg z4 := ⟨_, rfl⟩
      have h := h f6 ef6
      refine kast (ws' := [e_Out a Out_size Out_gathered Out_gatheredBits, e_ar a n cI 11 f6]) E hw 1 rfl b5 (by rw [ef6]; rfl) d_Out_changeNumber_43 (fun H locs hw => ?_)
      obtain ⟨z7, ez7⟩ : ∃ z : Int32, z = y3 + 1 := ⟨_, rfl⟩
      have h := h z7 ez7
      refine lv_iinc (v := z7) (lv' := [(3, .int z7), (0, .ref (a 3)), (1, .int x1), (2, .int x2)]) hx hb d_Out_changeNumber_44 hl (k := 3) rfl (by rw [ez7]; exact congrArg (y3 + ·) (by decide)) (by decide) rfl (fun ls hl => ?_)
      refine lv_goto (tgt := 18) hx hb d_Out_changeNumber_47 (by decide) ?_
      exact ih f6 z7 _ _ ls hw (lv_sub hl [1, 2, 3, 0] rfl) h
set_option maxHeartbeats 2000000 in
set_option maxRecDepth 20000 in
theorem c_Out_changeNumber {l : Launch} {dC : Nat → ClassId} {dI : Nat → Nat → Nat} {cI : ClassId} {tb a n : Nat → Nat} {Out_size : Int32} {Out_gathered : Int32} {Out_gatheredBits : Int32} {ob : Nat → Int32} {x1 : Int32} {x2 : Int32} {post : ((Nat → Int32)) → Prop} (h : wp_Out_changeNumber n ob x1 x2 post) : CtV classes dC dI cI tb l y_Out_changeNumber prog_3_method_7_code 4 ({ frames := 0, cells := 0, slots := 0, locals := 0 }) [.ref (a 3), .int x1, .int x2] [e_Out a Out_size Out_gathered Out_gatheredBits, e_ar a n cI 11 ob] ((Nat → Int32)) (fun u => [e_Out a Out_size Out_gathered Out_gatheredBits, e_ar a n cI 11 u]) post := by
  refine startV (by decide) (Nat.le_of_ble_eq_true rfl) ?_
  intro p e s m below meth c ls E hr hlk hnm hl hw
  have hl : lv_has ls 4 [(0, .ref (a 3)), (1, .int x1), (2, .int x2)] := hl
  generalize va_A [e_Out a Out_size Out_gathered Out_gatheredBits, e_ar a n cI 11 ob] s.heap.size = A at hw ⊢
  obtain ⟨hx, hb, hml, hown, hts⟩ := id E
  unfold wp_Out_changeNumber at h
  refine lv_iload_n hx hb d_Out_changeNumber_0 rfl (lv_at hl 1 rfl) ?_
  refine lv_if_lt (tgt := 15) hx hb d_Out_changeNumber_1 (by decide) (fun c1 => ?_) (fun c1 => ?_)
  · have h := h.1 c1
    exact retV (out := fun u => [e_Out a Out_size Out_gathered Out_gatheredBits, e_ar a n cI 11 u]) (u := ob) E hr hlk hw h d_Out_changeNumber_15
  · have h := h.2 c1
    refine lv_iload_n hx hb d_Out_changeNumber_4 rfl (lv_at hl 1 rfl) ?_
    refine lv_aload_n hx hb d_Out_changeNumber_5 rfl (lv_at hl 0 rfl) ?_
    refine kget (v := .ref (a 11)) (T := F_Out) E hw in_Out rfl 0 0 rfl (by decide) tw119 rfl d_Out_changeNumber_6 ?_
    refine kalen E hw 1 rfl d_Out_changeNumber_9 ?_
    refine lv_iconst (v := 3) hx hb d_Out_changeNumber_10 (by decide) ?_
    refine lv_isub hx hb d_Out_changeNumber_11 ?_
    refine lv_icmp_lt (tgt := 16) hx hb d_Out_changeNumber_12 (by decide) (fun c2 => ?_) (fun c2 => ?_)
    · have h := h.1 c2
      refine lv_iconst (v := 0) hx hb d_Out_changeNumber_16 (by decide) ?_
      refine lv_istore_n (lv' := [(3, .int 0), (0, .ref (a 3)), (1, .int x1), (2, .int x2)]) hx hb d_Out_changeNumber_17 rfl hl (by decide) rfl (fun ls hl => ?_)
      obtain ⟨N8, h⟩ := h
      exact s_Out_changeNumber_18 (a := a) (n := n) (tb := tb) E hr hlk  N8 ob 0 _ _ ls hw (lv_sub hl [1, 2, 3, 0] rfl) h
    · have h := h.2 c2
      exact retV (out := fun u => [e_Out a Out_size Out_gathered Out_gatheredBits, e_ar a n cI 11 u]) (u := ob) E hr hlk hw h d_Out_changeNumber_15
-- PicturePacker$Output.roomFor(I)I
theorem d_Out_roomFor_0 : decode prog_3_method_2_code 0 = .ok (.bipush 63, 2) := by decide +kernel
theorem d_Out_roomFor_2 : decode prog_3_method_2_code 2 = .ok (.bipush 9, 2) := by decide +kernel
theorem d_Out_roomFor_4 : decode prog_3_method_2_code 4 = .ok (.iload_n 0, 1) := by decide +kernel
theorem d_Out_roomFor_5 : decode prog_3_method_2_code 5 = .ok (.imul, 1) := by decide +kernel
theorem d_Out_roomFor_6 : decode prog_3_method_2_code 6 = .ok (.bipush 10, 2) := by decide +kernel
theorem d_Out_roomFor_8 : decode prog_3_method_2_code 8 = .ok (.iadd, 1) := by decide +kernel
theorem d_Out_roomFor_9 : decode prog_3_method_2_code 9 = .ok (.bipush 7, 2) := by decide +kernel
theorem d_Out_roomFor_11 : decode prog_3_method_2_code 11 = .ok (.iadd, 1) := by decide +kernel
theorem d_Out_roomFor_12 : decode prog_3_method_2_code 12 = .ok (.bipush 8, 2) := by decide +kernel
theorem d_Out_roomFor_14 : decode prog_3_method_2_code 14 = .ok (.idiv, 1) := by decide +kernel
theorem d_Out_roomFor_15 : decode prog_3_method_2_code 15 = .ok (.iadd, 1) := by decide +kernel
theorem d_Out_roomFor_16 : decode prog_3_method_2_code 16 = .ok (.ireturn, 1) := by decide +kernel
abbrev y_Out_roomFor : MethodName := ⟨"PicturePacker$Output", "roomFor", "(I)I"⟩
def wp_Out_roomFor (n : Nat → Nat) (x0 : Int32) (post : Int32 → Unit → Prop) : Prop := post (63 + ((((9 * x0) + 10) + 7) / 8)) ()
set_option maxHeartbeats 2000000 in
set_option maxRecDepth 20000 in
theorem c_Out_roomFor {l : Launch} {dC : Nat → ClassId} {dI : Nat → Nat → Nat} {cI : ClassId} {tb a n : Nat → Nat} {x0 : Int32} {post : Int32 → Unit → Prop} (h : wp_Out_roomFor n x0 post) : CtI classes dC dI cI tb l y_Out_roomFor prog_3_method_2_code 1 .int ({ frames := 0, cells := 0, slots := 0, locals := 0 }) [.int x0] [] (Unit) (fun _ => []) post := by
  refine startI (by decide) (Nat.le_of_ble_eq_true rfl) ?_
  intro p e s m below meth c ls E hr hlk hnm hl hw
  have hl : lv_has ls 1 [(0, .int x0)] := hl
  generalize va_A [] s.heap.size = A at hw ⊢
  obtain ⟨hx, hb, hml, hown, hts⟩ := id E
  unfold wp_Out_roomFor at h
  refine lv_bipush (v := 63) hx hb d_Out_roomFor_0 (by decide) ?_
  refine lv_bipush (v := 9) hx hb d_Out_roomFor_2 (by decide) ?_
  refine lv_iload_n hx hb d_Out_roomFor_4 rfl (lv_at hl 0 rfl) ?_
  refine lv_imul hx hb d_Out_roomFor_5 ?_
  refine lv_bipush (v := 10) hx hb d_Out_roomFor_6 (by decide) ?_
  refine lv_iadd hx hb d_Out_roomFor_8 ?_
  refine lv_bipush (v := 7) hx hb d_Out_roomFor_9 (by decide) ?_
  refine lv_iadd hx hb d_Out_roomFor_11 ?_
  refine lv_bipush (v := 8) hx hb d_Out_roomFor_12 (by decide) ?_
  refine lv_idiv hx hb d_Out_roomFor_14 (by decide) ?_
  refine lv_iadd hx hb d_Out_roomFor_15 ?_
  exact retI (out := fun u => []) (u := ()) E hr hlk rfl hw h d_Out_roomFor_16
end
section
-- PicturePacker$Picture.has(II)Z
theorem d_Pic_has_0 : decode prog_5_method_2_code 0 = .ok (.iload_n 1, 1) := by decide +kernel
theorem d_Pic_has_1 : decode prog_5_method_2_code 1 = .ok (.ifCond .lt 27, 3) := by decide +kernel
theorem d_Pic_has_4 : decode prog_5_method_2_code 4 = .ok (.iload_n 1, 1) := by decide +kernel
theorem d_Pic_has_5 : decode prog_5_method_2_code 5 = .ok (.aload_n 0, 1) := by decide +kernel
theorem d_Pic_has_6 : decode prog_5_method_2_code 6 = .ok (.getfield 9, 3) := by decide +kernel
theorem d_Pic_has_9 : decode prog_5_method_2_code 9 = .ok (.if_icmp .ge 19, 3) := by decide +kernel
theorem d_Pic_has_12 : decode prog_5_method_2_code 12 = .ok (.iload_n 2, 1) := by decide +kernel
theorem d_Pic_has_13 : decode prog_5_method_2_code 13 = .ok (.ifCond .lt 15, 3) := by decide +kernel
theorem d_Pic_has_16 : decode prog_5_method_2_code 16 = .ok (.iload_n 2, 1) := by decide +kernel
theorem d_Pic_has_17 : decode prog_5_method_2_code 17 = .ok (.aload_n 0, 1) := by decide +kernel
theorem d_Pic_has_18 : decode prog_5_method_2_code 18 = .ok (.getfield 15, 3) := by decide +kernel
theorem d_Pic_has_21 : decode prog_5_method_2_code 21 = .ok (.if_icmp .ge 7, 3) := by decide +kernel
theorem d_Pic_has_24 : decode prog_5_method_2_code 24 = .ok (.iconst 1, 1) := by decide +kernel
theorem d_Pic_has_25 : decode prog_5_method_2_code 25 = .ok (.goto 4, 3) := by decide +kernel
theorem d_Pic_has_28 : decode prog_5_method_2_code 28 = .ok (.iconst 0, 1) := by decide +kernel
theorem d_Pic_has_29 : decode prog_5_method_2_code 29 = .ok (.ireturn, 1) := by decide +kernel
abbrev y_Pic_has : MethodName := ⟨"PicturePacker$Picture", "has", "(II)Z"⟩
def wp_Pic_has (n : Nat → Nat) (Pic_width : Int32) (Pic_height : Int32) (x1 : Int32) (x2 : Int32) (post : Int32 → Unit → Prop) : Prop := ((x1 : Int32) < 0 → (narrow .boolean (.int 0) = .int 0 ∧ post 0 ())) ∧ (¬ ((x1 : Int32) < 0) → (((Pic_width : Int32) ≤ x1 → (narrow .boolean (.int 0) = .int 0 ∧ post 0 ())) ∧ (¬ ((Pic_width : Int32) ≤ x1) → (((x2 : Int32) < 0 → (narrow .boolean (.int 0) = .int 0 ∧ post 0 ())) ∧ (¬ ((x2 : Int32) < 0) → (((Pic_height : Int32) ≤ x2 → (narrow .boolean (.int 0) = .int 0 ∧ post 0 ())) ∧ (¬ ((Pic_height : Int32) ≤ x2) → (narrow .boolean (.int 1) = .int 1 ∧ post 1 ()))))))))
set_option maxHeartbeats 2000000 in
set_option maxRecDepth 20000 in
theorem c_Pic_has {l : Launch} {dC : Nat → ClassId} {dI : Nat → Nat → Nat} {cI : ClassId} {tb a n : Nat → Nat} {Pic_width : Int32} {Pic_height : Int32} {Pic_stride : Int32} {x1 : Int32} {x2 : Int32} {post : Int32 → Unit → Prop} (h : wp_Pic_has n Pic_width Pic_height x1 x2 post) : CtI classes dC dI cI tb l y_Pic_has prog_5_method_2_code 3 .boolean ({ frames := 0, cells := 0, slots := 0, locals := 0 }) [.ref (a 1), .int x1, .int x2] [e_Pic a Pic_width Pic_height Pic_stride] (Unit) (fun _ => [e_Pic a Pic_width Pic_height Pic_stride]) post := by
  refine startI (by decide) (Nat.le_of_ble_eq_true rfl) ?_
  intro p e s m below meth c ls E hr hlk hnm hl hw
  have hl : lv_has ls 3 [(0, .ref (a 1)), (1, .int x1), (2, .int x2)] := hl
  generalize va_A [e_Pic a Pic_width Pic_height Pic_stride] s.heap.size = A at hw ⊢
  obtain ⟨hx, hb, hml, hown, hts⟩ := id E
  unfold wp_Pic_has at h
  refine lv_iload_n hx hb d_Pic_has_0 rfl (lv_at hl 1 rfl) ?_
  refine lv_if_lt (tgt := 28) hx hb d_Pic_has_1 (by decide) (fun c1 => ?_) (fun c1 => ?_)
  · have h := h.1 c1
    refine lv_iconst (v := 0) hx hb d_Pic_has_28 (by decide) ?_
    exact retI (out := fun u => [e_Pic a Pic_width Pic_height Pic_stride]) (u := ()) E hr hlk h.1 hw h.2 d_Pic_has_29
  · have h := h.2 c1
    refine lv_iload_n hx hb d_Pic_has_4 rfl (lv_at hl 1 rfl) ?_
    refine lv_aload_n hx hb d_Pic_has_5 rfl (lv_at hl 0 rfl) ?_
    refine kget (v := .int Pic_width) (T := F_Pic) E hw in_Pic rfl 0 0 rfl (by decide) tw68 rfl d_Pic_has_6 ?_
    refine lv_icmp_ge (tgt := 28) hx hb d_Pic_has_9 (by decide) (fun c2 => ?_) (fun c2 => ?_)
    · have h := h.1 c2
      refine lv_iconst (v := 0) hx hb d_Pic_has_28 (by decide) ?_
      exact retI (out := fun u => [e_Pic a Pic_width Pic_height Pic_stride]) (u := ()) E hr hlk h.1 hw h.2 d_Pic_has_29
    · have h := h.2 c2
      refine lv_iload_n hx hb d_Pic_has_12 rfl (lv_at hl 2 rfl) ?_
      refine lv_if_lt (tgt := 28) hx hb d_Pic_has_13 (by decide) (fun c3 => ?_) (fun c3 => ?_)
      · have h := h.1 c3
        refine lv_iconst (v := 0) hx hb d_Pic_has_28 (by decide) ?_
        exact retI (out := fun u => [e_Pic a Pic_width Pic_height Pic_stride]) (u := ()) E hr hlk h.1 hw h.2 d_Pic_has_29
      · have h := h.2 c3
        refine lv_iload_n hx hb d_Pic_has_16 rfl (lv_at hl 2 rfl) ?_
        refine lv_aload_n hx hb d_Pic_has_17 rfl (lv_at hl 0 rfl) ?_
        refine kget (v := .int Pic_height) (T := F_Pic) E hw in_Pic rfl 0 1 rfl (by decide) tw71 rfl d_Pic_has_18 ?_
        refine lv_icmp_ge (tgt := 28) hx hb d_Pic_has_21 (by decide) (fun c4 => ?_) (fun c4 => ?_)
        · have h := h.1 c4
          refine lv_iconst (v := 0) hx hb d_Pic_has_28 (by decide) ?_
          exact retI (out := fun u => [e_Pic a Pic_width Pic_height Pic_stride]) (u := ()) E hr hlk h.1 hw h.2 d_Pic_has_29
        · have h := h.2 c4
          refine lv_iconst (v := 1) hx hb d_Pic_has_24 (by decide) ?_
          refine lv_goto (tgt := 29) hx hb d_Pic_has_25 (by decide) ?_
          exact retI (out := fun u => [e_Pic a Pic_width Pic_height Pic_stride]) (u := ()) E hr hlk h.1 hw h.2 d_Pic_has_29
-- PicturePacker$Picture.placeOf(II)I
theorem d_Pic_placeOf_0 : decode prog_5_method_3_code 0 = .ok (.iload_n 2, 1) := by decide +kernel
theorem d_Pic_placeOf_1 : decode prog_5_method_3_code 1 = .ok (.iconst 1, 1) := by decide +kernel
theorem d_Pic_placeOf_2 : decode prog_5_method_3_code 2 = .ok (.iadd, 1) := by decide +kernel
theorem d_Pic_placeOf_3 : decode prog_5_method_3_code 3 = .ok (.aload_n 0, 1) := by decide +kernel
theorem d_Pic_placeOf_4 : decode prog_5_method_3_code 4 = .ok (.getfield 18, 3) := by decide +kernel
theorem d_Pic_placeOf_7 : decode prog_5_method_3_code 7 = .ok (.imul, 1) := by decide +kernel
theorem d_Pic_placeOf_8 : decode prog_5_method_3_code 8 = .ok (.iconst 3, 1) := by decide +kernel
theorem d_Pic_placeOf_9 : decode prog_5_method_3_code 9 = .ok (.iload_n 1, 1) := by decide +kernel
theorem d_Pic_placeOf_10 : decode prog_5_method_3_code 10 = .ok (.iconst 1, 1) := by decide +kernel
theorem d_Pic_placeOf_11 : decode prog_5_method_3_code 11 = .ok (.iadd, 1) := by decide +kernel
theorem d_Pic_placeOf_12 : decode prog_5_method_3_code 12 = .ok (.imul, 1) := by decide +kernel
theorem d_Pic_placeOf_13 : decode prog_5_method_3_code 13 = .ok (.iadd, 1) := by decide +kernel
theorem d_Pic_placeOf_14 : decode prog_5_method_3_code 14 = .ok (.ireturn, 1) := by decide +kernel
abbrev y_Pic_placeOf : MethodName := ⟨"PicturePacker$Picture", "placeOf", "(II)I"⟩
def wp_Pic_placeOf (n : Nat → Nat) (Pic_stride : Int32) (x1 : Int32) (x2 : Int32) (post : Int32 → Unit → Prop) : Prop := post (((x2 + 1) * Pic_stride) + (3 * (x1 + 1))) ()
set_option maxHeartbeats 2000000 in
set_option maxRecDepth 20000 in
theorem c_Pic_placeOf {l : Launch} {dC : Nat → ClassId} {dI : Nat → Nat → Nat} {cI : ClassId} {tb a n : Nat → Nat} {Pic_width : Int32} {Pic_height : Int32} {Pic_stride : Int32} {x1 : Int32} {x2 : Int32} {post : Int32 → Unit → Prop} (h : wp_Pic_placeOf n Pic_stride x1 x2 post) : CtI classes dC dI cI tb l y_Pic_placeOf prog_5_method_3_code 3 .int ({ frames := 0, cells := 0, slots := 0, locals := 0 }) [.ref (a 1), .int x1, .int x2] [e_Pic a Pic_width Pic_height Pic_stride] (Unit) (fun _ => [e_Pic a Pic_width Pic_height Pic_stride]) post := by
  refine startI (by decide) (Nat.le_of_ble_eq_true rfl) ?_
  intro p e s m below meth c ls E hr hlk hnm hl hw
  have hl : lv_has ls 3 [(0, .ref (a 1)), (1, .int x1), (2, .int x2)] := hl
  generalize va_A [e_Pic a Pic_width Pic_height Pic_stride] s.heap.size = A at hw ⊢
  obtain ⟨hx, hb, hml, hown, hts⟩ := id E
  unfold wp_Pic_placeOf at h
  refine lv_iload_n hx hb d_Pic_placeOf_0 rfl (lv_at hl 2 rfl) ?_
  refine lv_iconst (v := 1) hx hb d_Pic_placeOf_1 (by decide) ?_
  refine lv_iadd hx hb d_Pic_placeOf_2 ?_
  refine lv_aload_n hx hb d_Pic_placeOf_3 rfl (lv_at hl 0 rfl) ?_
  refine kget (v := .int Pic_stride) (T := F_Pic) E hw in_Pic rfl 0 2 rfl (by decide) tw74 rfl d_Pic_placeOf_4 ?_
  refine lv_imul hx hb d_Pic_placeOf_7 ?_
  refine lv_iconst (v := 3) hx hb d_Pic_placeOf_8 (by decide) ?_
  refine lv_iload_n hx hb d_Pic_placeOf_9 rfl (lv_at hl 1 rfl) ?_
  refine lv_iconst (v := 1) hx hb d_Pic_placeOf_10 (by decide) ?_
  refine lv_iadd hx hb d_Pic_placeOf_11 ?_
  refine lv_imul hx hb d_Pic_placeOf_12 ?_
  refine lv_iadd hx hb d_Pic_placeOf_13 ?_
  exact retI (out := fun u => [e_Pic a Pic_width Pic_height Pic_stride]) (u := ()) E hr hlk rfl hw h d_Pic_placeOf_14
-- PicturePacker$Picture.paint(III)V
theorem d_Pic_paint_0 : decode prog_5_method_4_code 0 = .ok (.aload_n 0, 1) := by decide +kernel
theorem d_Pic_paint_1 : decode prog_5_method_4_code 1 = .ok (.iload_n 1, 1) := by decide +kernel
theorem d_Pic_paint_2 : decode prog_5_method_4_code 2 = .ok (.iload_n 2, 1) := by decide +kernel
theorem d_Pic_paint_3 : decode prog_5_method_4_code 3 = .ok (.invokevirtual 25, 3) := by decide +kernel
theorem d_Pic_paint_6 : decode prog_5_method_4_code 6 = .ok (.istore 4, 2) := by decide +kernel
theorem d_Pic_paint_8 : decode prog_5_method_4_code 8 = .ok (.iload 4, 2) := by decide +kernel
theorem d_Pic_paint_10 : decode prog_5_method_4_code 10 = .ok (.ifCond .lt 61, 3) := by decide +kernel
theorem d_Pic_paint_13 : decode prog_5_method_4_code 13 = .ok (.iload 4, 2) := by decide +kernel
theorem d_Pic_paint_15 : decode prog_5_method_4_code 15 = .ok (.aload_n 0, 1) := by decide +kernel
theorem d_Pic_paint_16 : decode prog_5_method_4_code 16 = .ok (.getfield 21, 3) := by decide +kernel
theorem d_Pic_paint_19 : decode prog_5_method_4_code 19 = .ok (.arraylength, 1) := by decide +kernel
theorem d_Pic_paint_20 : decode prog_5_method_4_code 20 = .ok (.iconst 2, 1) := by decide +kernel
theorem d_Pic_paint_21 : decode prog_5_method_4_code 21 = .ok (.isub, 1) := by decide +kernel
theorem d_Pic_paint_22 : decode prog_5_method_4_code 22 = .ok (.if_icmp .ge 49, 3) := by decide +kernel
theorem d_Pic_paint_25 : decode prog_5_method_4_code 25 = .ok (.aload_n 0, 1) := by decide +kernel
theorem d_Pic_paint_26 : decode prog_5_method_4_code 26 = .ok (.getfield 21, 3) := by decide +kernel
theorem d_Pic_paint_29 : decode prog_5_method_4_code 29 = .ok (.iload 4, 2) := by decide +kernel
theorem d_Pic_paint_31 : decode prog_5_method_4_code 31 = .ok (.iload_n 3, 1) := by decide +kernel
theorem d_Pic_paint_32 : decode prog_5_method_4_code 32 = .ok (.bipush 16, 2) := by decide +kernel
theorem d_Pic_paint_34 : decode prog_5_method_4_code 34 = .ok (.ishr, 1) := by decide +kernel
theorem d_Pic_paint_35 : decode prog_5_method_4_code 35 = .ok (.sipush 255, 3) := by decide +kernel
theorem d_Pic_paint_38 : decode prog_5_method_4_code 38 = .ok (.iand, 1) := by decide +kernel
theorem d_Pic_paint_39 : decode prog_5_method_4_code 39 = .ok (.iastore, 1) := by decide +kernel
theorem d_Pic_paint_40 : decode prog_5_method_4_code 40 = .ok (.aload_n 0, 1) := by decide +kernel
theorem d_Pic_paint_41 : decode prog_5_method_4_code 41 = .ok (.getfield 21, 3) := by decide +kernel
theorem d_Pic_paint_44 : decode prog_5_method_4_code 44 = .ok (.iload 4, 2) := by decide +kernel
theorem d_Pic_paint_46 : decode prog_5_method_4_code 46 = .ok (.iconst 1, 1) := by decide +kernel
theorem d_Pic_paint_47 : decode prog_5_method_4_code 47 = .ok (.iadd, 1) := by decide +kernel
theorem d_Pic_paint_48 : decode prog_5_method_4_code 48 = .ok (.iload_n 3, 1) := by decide +kernel
theorem d_Pic_paint_49 : decode prog_5_method_4_code 49 = .ok (.bipush 8, 2) := by decide +kernel
theorem d_Pic_paint_51 : decode prog_5_method_4_code 51 = .ok (.ishr, 1) := by decide +kernel
theorem d_Pic_paint_52 : decode prog_5_method_4_code 52 = .ok (.sipush 255, 3) := by decide +kernel
theorem d_Pic_paint_55 : decode prog_5_method_4_code 55 = .ok (.iand, 1) := by decide +kernel
theorem d_Pic_paint_56 : decode prog_5_method_4_code 56 = .ok (.iastore, 1) := by decide +kernel
theorem d_Pic_paint_57 : decode prog_5_method_4_code 57 = .ok (.aload_n 0, 1) := by decide +kernel
theorem d_Pic_paint_58 : decode prog_5_method_4_code 58 = .ok (.getfield 21, 3) := by decide +kernel
theorem d_Pic_paint_61 : decode prog_5_method_4_code 61 = .ok (.iload 4, 2) := by decide +kernel
theorem d_Pic_paint_63 : decode prog_5_method_4_code 63 = .ok (.iconst 2, 1) := by decide +kernel
theorem d_Pic_paint_64 : decode prog_5_method_4_code 64 = .ok (.iadd, 1) := by decide +kernel
theorem d_Pic_paint_65 : decode prog_5_method_4_code 65 = .ok (.iload_n 3, 1) := by decide +kernel
theorem d_Pic_paint_66 : decode prog_5_method_4_code 66 = .ok (.sipush 255, 3) := by decide +kernel
theorem d_Pic_paint_69 : decode prog_5_method_4_code 69 = .ok (.iand, 1) := by decide +kernel
theorem d_Pic_paint_70 : decode prog_5_method_4_code 70 = .ok (.iastore, 1) := by decide +kernel
theorem d_Pic_paint_71 : decode prog_5_method_4_code 71 = .ok (.return_, 1) := by decide +kernel
abbrev y_Pic_paint : MethodName := ⟨"PicturePacker$Picture", "paint", "(III)V"⟩
def wp_Pic_paint (n : Nat → Nat) (Pic_stride : Int32) (pb : Nat → Int32) (x1 : Int32) (x2 : Int32) (x3 : Int32) (post : ((Nat → Int32)) → Prop) : Prop := wp_Pic_placeOf n Pic_stride x1 x2 (fun r2 _ => ((r2 : Int32) < 0 → (post pb)) ∧ (¬ ((r2 : Int32) < 0) → ((((nI (n 8)) - 2 : Int32) ≤ r2 → (post pb)) ∧ (¬ (((nI (n 8)) - 2 : Int32) ≤ r2) → (∀ z5 : Int32, z5 = (((x3 : Int32) >>> (16 &&& 31)) &&& 255) → (vp_in r2 (n 8) ∧ (∀ f7 : Nat → Int32, f7 = upd pb (r2 : Int32).toNatClampNeg z5 → (∀ z8 : Int32, z8 = (((x3 : Int32) >>> (8 &&& 31)) &&& 255) → (vp_in (r2 + 1) (n 8) ∧ (∀ f10 : Nat → Int32, f10 = upd f7 (r2 + 1 : Int32).toNatClampNeg z8 → (∀ z11 : Int32, z11 = (x3 &&& 255) → (vp_in (r2 + 2) (n 8) ∧ (∀ f13 : Nat → Int32, f13 = upd f10 (r2 + 2 : Int32).toNatClampNeg z11 → (post f13))))))))))))))
set_option maxHeartbeats 2000000 in
set_option maxRecDepth 20000 in
theorem c_Pic_paint {l : Launch} {dC : Nat → ClassId} {dI : Nat → Nat → Nat} {cI : ClassId} {tb a n : Nat → Nat} {Pic_width : Int32} {Pic_height : Int32} {Pic_stride : Int32} {pb : Nat → Int32} {x1 : Int32} {x2 : Int32} {x3 : Int32} {post : ((Nat → Int32)) → Prop} (h : wp_Pic_paint n Pic_stride pb x1 x2 x3 post) : CtV classes dC dI cI tb l y_Pic_paint prog_5_method_4_code 5 ({ frames := 1, cells := 0, slots := 0, locals := 22 }) [.ref (a 1), .int x1, .int x2, .int x3] [e_Pic a Pic_width Pic_height Pic_stride, e_ar a n cI 8 pb] ((Nat → Int32)) (fun u => [e_Pic a Pic_width Pic_height Pic_stride, e_ar a n cI 8 u]) post := by
  refine startV (by decide) (Nat.le_of_ble_eq_true rfl) ?_
  intro p e s m below meth c ls E hr hlk hnm hl hw
  have hl : lv_has ls 5 [(0, .ref (a 1)), (1, .int x1), (2, .int x2), (3, .int x3)] := hl
  generalize va_A [e_Pic a Pic_width Pic_height Pic_stride, e_ar a n cI 8 pb] s.heap.size = A at hw ⊢
  obtain ⟨hx, hb, hml, hown, hts⟩ := id E
  unfold wp_Pic_paint at h
  refine lv_aload_n hx hb d_Pic_paint_0 rfl (lv_at hl 0 rfl) ?_
  refine lv_iload_n hx hb d_Pic_paint_1 rfl (lv_at hl 1 rfl) ?_
  refine lv_iload_n hx hb d_Pic_paint_2 rfl (lv_at hl 2 rfl) ?_
  refine kVi (y := y_Pic_placeOf) (ws' := fun _ => [e_Pic a Pic_width Pic_height Pic_stride, e_ar a n cI 8 pb]) (wr := [e_ar a n cI 8 pb]) (As := [.int x1, .int x2]) (rest := []) E hw (c_Pic_placeOf (l := l) (dC := dC) (dI := dI) (cI := cI) (tb := tb) (a := a) (n := n) (Pic_width := Pic_width) (Pic_height := Pic_height) (Pic_stride := Pic_stride) (x1 := x1) (x2 := x2) h) tw239 tw240 tw241 tw36 tw242 2 (by decide) ⟨Nat.le_of_ble_eq_true rfl, Nat.le_of_ble_eq_true rfl⟩ ⟨Nat.le_of_ble_eq_true rfl, Nat.le_of_ble_eq_true rfl⟩ ⟨rfl, rfl⟩ rfl rfl 0 rfl [0] [1] [1, 0] rfl rfl rfl rfl (by decide) rfl (fun _ => rfl) hl.1 rfl rfl (Nat.le_of_ble_eq_true rfl) d_Pic_paint_3 (fun r2 u1 H locs h hw => ?_)
  refine lv_istore (lv' := [(4, .int r2), (0, .ref (a 1)), (1, .int x1), (2, .int x2), (3, .int x3)]) hx hb d_Pic_paint_6 hl (by decide) rfl (fun ls hl => ?_)
  refine lv_iload hx hb d_Pic_paint_8 (lv_at hl 0 rfl) ?_
  refine lv_if_lt (tgt := 71) hx hb d_Pic_paint_10 (by decide) (fun c3 => ?_) (fun c3 => ?_)
  · have h := h.1 c3
    exact retV (out := fun u => [e_Pic a Pic_width Pic_height Pic_stride, e_ar a n cI 8 u]) (u := pb) E hr hlk hw h d_Pic_paint_71
  · have h := h.2 c3
    refine lv_iload hx hb d_Pic_paint_13 (lv_at hl 0 rfl) ?_
    refine lv_aload_n hx hb d_Pic_paint_15 rfl (lv_at hl 1 rfl) ?_
    refine kget (v := .ref (a 8)) (T := F_Pic) E hw in_Pic rfl 0 3 rfl (by decide) tw75 rfl d_Pic_paint_16 ?_
    refine kalen E hw 1 rfl d_Pic_paint_19 ?_
    refine lv_iconst (v := 2) hx hb d_Pic_paint_20 (by decide) ?_
    refine lv_isub hx hb d_Pic_paint_21 ?_
    refine lv_icmp_ge (tgt := 71) hx hb d_Pic_paint_22 (by decide) (fun c4 => ?_) (fun c4 => ?_)
    · have h := h.1 c4
      exact retV (out := fun u => [e_Pic a Pic_width Pic_height Pic_stride, e_ar a n cI 8 u]) (u := pb) E hr hlk hw h d_Pic_paint_71
    · have h := h.2 c4
      refine lv_aload_n hx hb d_Pic_paint_25 rfl (lv_at hl 1 rfl) ?_
      refine kget (v := .ref (a 8)) (T := F_Pic) E hw in_Pic rfl 0 3 rfl (by decide) tw75 rfl d_Pic_paint_26 ?_
      refine lv_iload hx hb d_Pic_paint_29 (lv_at hl 0 rfl) ?_
      refine lv_iload_n hx hb d_Pic_paint_31 rfl (lv_at hl 4 rfl) ?_
      refine lv_bipush (v := 16) hx hb d_Pic_paint_32 (by decide) ?_
      refine lv_ishr hx hb d_Pic_paint_34 ?_
      refine lv_sipush (v := 255) hx hb d_Pic_paint_35 (by decide) ?_
      refine lv_iand hx hb d_Pic_paint_38 ?_
      refine lv_topi (fun z5 ez5 => ?_)
      have h := h z5 ez5
      obtain ⟨b6, h⟩ := h
      obtain ⟨f7, ef7⟩ : ∃ z : Nat → Int32, z = upd pb (r2 : Int32).toNatClampNeg z5 := ⟨_, rfl⟩
      have h := h f7 ef7
      refine kast (ws' := [e_Pic a Pic_width Pic_height Pic_stride, e_ar a n cI 8 f7]) E hw 1 rfl b6 (by rw [ef7]; rfl) d_Pic_paint_39 (fun H locs hw => ?_)
      refine lv_aload_n hx hb d_Pic_paint_40 rfl (lv_at hl 1 rfl) ?_
      refine kget (v := .ref (a 8)) (T := F_Pic) E hw in_Pic rfl 0 3 rfl (by decide) tw75 rfl d_Pic_paint_41 ?_
      refine lv_iload hx hb d_Pic_paint_44 (lv_at hl 0 rfl) ?_
      refine lv_iconst (v := 1) hx hb d_Pic_paint_46 (by decide) ?_
      refine lv_iadd hx hb d_Pic_paint_47 ?_
      refine lv_iload_n hx hb d_Pic_paint_48 rfl (lv_at hl 4 rfl) ?_
      refine lv_bipush (v := 8) hx hb d_Pic_paint_49 (by decide) ?_
      refine lv_ishr hx hb d_Pic_paint_51 ?_
      refine lv_sipush (v := 255) hx hb d_Pic_paint_52 (by decide) ?_
      refine lv_iand hx hb d_Pic_paint_55 ?_
      refine lv_topi (fun z8 ez8 => ?_)
      have h := h z8 ez8
      obtain ⟨b9, h⟩ := h
      obtain ⟨f10, ef10⟩ : ∃ z : Nat → Int32, z = upd f7 (r2 + 1 : Int32).toNatClampNeg z8 := ⟨_, rfl⟩
      have h := h f10 ef10
      refine kast (ws' := [e_Pic a Pic_width Pic_height Pic_stride, e_ar a n cI 8 f10]) E hw 1 rfl b9 (by rw [ef10]; rfl) d_Pic_paint_56 (fun H locs hw => ?_)
      refine lv_aload_n hx hb d_Pic_paint_57 rfl (lv_at hl 1 rfl) ?_
      refine kget (v := .ref (a 8)) (T := F_Pic) E hw in_Pic rfl 0 3 rfl (by decide) tw75 rfl d_Pic_paint_58 ?_
      refine lv_iload hx hb d_Pic_paint_61 (lv_at hl 0 rfl) ?_
      refine lv_iconst (v := 2) hx hb d_Pic_paint_63 (by decide) ?_
      refine lv_iadd hx hb d_Pic_paint_64 ?_
      refine lv_iload_n hx hb d_Pic_paint_65 rfl (lv_at hl 4 rfl) ?_
      refine lv_sipush (v := 255) hx hb d_Pic_paint_66 (by decide) ?_
      refine lv_iand hx hb d_Pic_paint_69 ?_
      refine lv_topi (fun z11 ez11 => ?_)
      have h := h z11 ez11
      obtain ⟨b12, h⟩ := h
      obtain ⟨f13, ef13⟩ : ∃ z : Nat → Int32, z = upd f10 (r2 + 2 : Int32).toNatClampNeg z11 := ⟨_, rfl⟩
      have h := h f13 ef13
      refine kast (ws' := [e_Pic a Pic_width Pic_height Pic_stride, e_ar a n cI 8 f13]) E hw 1 rfl b12 (by rw [ef13]; rfl) d_Pic_paint_70 (fun H locs hw => ?_)
      exact retV (out := fun u => [e_Pic a Pic_width Pic_height Pic_stride, e_ar a n cI 8 u]) (u := f13) E hr hlk hw h d_Pic_paint_71
-- PicturePacker$Picture.colourOf(II)I
theorem d_Pic_colourOf_0 : decode prog_5_method_5_code 0 = .ok (.aload_n 0, 1) := by decide +kernel
theorem d_Pic_colourOf_1 : decode prog_5_method_5_code 1 = .ok (.iload_n 1, 1) := by decide +kernel
theorem d_Pic_colourOf_2 : decode prog_5_method_5_code 2 = .ok (.iload_n 2, 1) := by decide +kernel
theorem d_Pic_colourOf_3 : decode prog_5_method_5_code 3 = .ok (.invokevirtual 25, 3) := by decide +kernel
theorem d_Pic_colourOf_6 : decode prog_5_method_5_code 6 = .ok (.istore_n 3, 1) := by decide +kernel
theorem d_Pic_colourOf_7 : decode prog_5_method_5_code 7 = .ok (.iload_n 3, 1) := by decide +kernel
theorem d_Pic_colourOf_8 : decode prog_5_method_5_code 8 = .ok (.ifCond .lt 14, 3) := by decide +kernel
theorem d_Pic_colourOf_11 : decode prog_5_method_5_code 11 = .ok (.iload_n 3, 1) := by decide +kernel
theorem d_Pic_colourOf_12 : decode prog_5_method_5_code 12 = .ok (.aload_n 0, 1) := by decide +kernel
theorem d_Pic_colourOf_13 : decode prog_5_method_5_code 13 = .ok (.getfield 21, 3) := by decide +kernel
theorem d_Pic_colourOf_16 : decode prog_5_method_5_code 16 = .ok (.arraylength, 1) := by decide +kernel
theorem d_Pic_colourOf_17 : decode prog_5_method_5_code 17 = .ok (.iconst 2, 1) := by decide +kernel
theorem d_Pic_colourOf_18 : decode prog_5_method_5_code 18 = .ok (.isub, 1) := by decide +kernel
theorem d_Pic_colourOf_19 : decode prog_5_method_5_code 19 = .ok (.if_icmp .lt 5, 3) := by decide +kernel
theorem d_Pic_colourOf_22 : decode prog_5_method_5_code 22 = .ok (.iconst (-1), 1) := by decide +kernel
theorem d_Pic_colourOf_23 : decode prog_5_method_5_code 23 = .ok (.ireturn, 1) := by decide +kernel
theorem d_Pic_colourOf_24 : decode prog_5_method_5_code 24 = .ok (.aload_n 0, 1) := by decide +kernel
theorem d_Pic_colourOf_25 : decode prog_5_method_5_code 25 = .ok (.getfield 21, 3) := by decide +kernel
theorem d_Pic_colourOf_28 : decode prog_5_method_5_code 28 = .ok (.iload_n 3, 1) := by decide +kernel
theorem d_Pic_colourOf_29 : decode prog_5_method_5_code 29 = .ok (.iaload, 1) := by decide +kernel
theorem d_Pic_colourOf_30 : decode prog_5_method_5_code 30 = .ok (.bipush 16, 2) := by decide +kernel
theorem d_Pic_colourOf_32 : decode prog_5_method_5_code 32 = .ok (.ishl, 1) := by decide +kernel
theorem d_Pic_colourOf_33 : decode prog_5_method_5_code 33 = .ok (.aload_n 0, 1) := by decide +kernel
theorem d_Pic_colourOf_34 : decode prog_5_method_5_code 34 = .ok (.getfield 21, 3) := by decide +kernel
theorem d_Pic_colourOf_37 : decode prog_5_method_5_code 37 = .ok (.iload_n 3, 1) := by decide +kernel
theorem d_Pic_colourOf_38 : decode prog_5_method_5_code 38 = .ok (.iconst 1, 1) := by decide +kernel
theorem d_Pic_colourOf_39 : decode prog_5_method_5_code 39 = .ok (.iadd, 1) := by decide +kernel
theorem d_Pic_colourOf_40 : decode prog_5_method_5_code 40 = .ok (.iaload, 1) := by decide +kernel
theorem d_Pic_colourOf_41 : decode prog_5_method_5_code 41 = .ok (.bipush 8, 2) := by decide +kernel
theorem d_Pic_colourOf_43 : decode prog_5_method_5_code 43 = .ok (.ishl, 1) := by decide +kernel
theorem d_Pic_colourOf_44 : decode prog_5_method_5_code 44 = .ok (.ior, 1) := by decide +kernel
theorem d_Pic_colourOf_45 : decode prog_5_method_5_code 45 = .ok (.aload_n 0, 1) := by decide +kernel
theorem d_Pic_colourOf_46 : decode prog_5_method_5_code 46 = .ok (.getfield 21, 3) := by decide +kernel
theorem d_Pic_colourOf_49 : decode prog_5_method_5_code 49 = .ok (.iload_n 3, 1) := by decide +kernel
theorem d_Pic_colourOf_50 : decode prog_5_method_5_code 50 = .ok (.iconst 2, 1) := by decide +kernel
theorem d_Pic_colourOf_51 : decode prog_5_method_5_code 51 = .ok (.iadd, 1) := by decide +kernel
theorem d_Pic_colourOf_52 : decode prog_5_method_5_code 52 = .ok (.iaload, 1) := by decide +kernel
theorem d_Pic_colourOf_53 : decode prog_5_method_5_code 53 = .ok (.ior, 1) := by decide +kernel
theorem d_Pic_colourOf_54 : decode prog_5_method_5_code 54 = .ok (.ireturn, 1) := by decide +kernel
abbrev y_Pic_colourOf : MethodName := ⟨"PicturePacker$Picture", "colourOf", "(II)I"⟩
def wp_Pic_colourOf (n : Nat → Nat) (Pic_stride : Int32) (pb : Nat → Int32) (x1 : Int32) (x2 : Int32) (post : Int32 → Unit → Prop) : Prop := wp_Pic_placeOf n Pic_stride x1 x2 (fun r2 _ => ((r2 : Int32) < 0 → (post ((-1)) ())) ∧ (¬ ((r2 : Int32) < 0) → (((r2 : Int32) < ((nI (n 8)) - 2) → (vp_in r2 (n 8) ∧ (vp_in (r2 + 1) (n 8) ∧ (vp_in (r2 + 2) (n 8) ∧ (post ((((pb (r2 : Int32).toNatClampNeg : Int32) <<< (16 &&& 31)) ||| ((pb (r2 + 1 : Int32).toNatClampNeg : Int32) <<< (8 &&& 31))) ||| (pb (r2 + 2 : Int32).toNatClampNeg)) ()))))) ∧ (¬ ((r2 : Int32) < ((nI (n 8)) - 2)) → (post ((-1)) ())))))
set_option maxHeartbeats 2000000 in
set_option maxRecDepth 20000 in
theorem c_Pic_colourOf {l : Launch} {dC : Nat → ClassId} {dI : Nat → Nat → Nat} {cI : ClassId} {tb a n : Nat → Nat} {Pic_width : Int32} {Pic_height : Int32} {Pic_stride : Int32} {pb : Nat → Int32} {x1 : Int32} {x2 : Int32} {post : Int32 → Unit → Prop} (h : wp_Pic_colourOf n Pic_stride pb x1 x2 post) : CtI classes dC dI cI tb l y_Pic_colourOf prog_5_method_5_code 4 .int ({ frames := 1, cells := 0, slots := 0, locals := 22 }) [.ref (a 1), .int x1, .int x2] [e_Pic a Pic_width Pic_height Pic_stride, e_ar a n cI 8 pb] (Unit) (fun _ => [e_Pic a Pic_width Pic_height Pic_stride, e_ar a n cI 8 pb]) post := by
  refine startI (by decide) (Nat.le_of_ble_eq_true rfl) ?_
  intro p e s m below meth c ls E hr hlk hnm hl hw
  have hl : lv_has ls 4 [(0, .ref (a 1)), (1, .int x1), (2, .int x2)] := hl
  generalize va_A [e_Pic a Pic_width Pic_height Pic_stride, e_ar a n cI 8 pb] s.heap.size = A at hw ⊢
  obtain ⟨hx, hb, hml, hown, hts⟩ := id E
  unfold wp_Pic_colourOf at h
  refine lv_aload_n hx hb d_Pic_colourOf_0 rfl (lv_at hl 0 rfl) ?_
  refine lv_iload_n hx hb d_Pic_colourOf_1 rfl (lv_at hl 1 rfl) ?_
  refine lv_iload_n hx hb d_Pic_colourOf_2 rfl (lv_at hl 2 rfl) ?_
  refine kVi (y := y_Pic_placeOf) (ws' := fun _ => [e_Pic a Pic_width Pic_height Pic_stride, e_ar a n cI 8 pb]) (wr := [e_ar a n cI 8 pb]) (As := [.int x1, .int x2]) (rest := []) E hw (c_Pic_placeOf (l := l) (dC := dC) (dI := dI) (cI := cI) (tb := tb) (a := a) (n := n) (Pic_width := Pic_width) (Pic_height := Pic_height) (Pic_stride := Pic_stride) (x1 := x1) (x2 := x2) h) tw239 tw240 tw241 tw36 tw242 2 (by decide) ⟨Nat.le_of_ble_eq_true rfl, Nat.le_of_ble_eq_true rfl⟩ ⟨Nat.le_of_ble_eq_true rfl, Nat.le_of_ble_eq_true rfl⟩ ⟨rfl, rfl⟩ rfl rfl 0 rfl [0] [1] [1, 0] rfl rfl rfl rfl (by decide) rfl (fun _ => rfl) hl.1 rfl rfl (Nat.le_of_ble_eq_true rfl) d_Pic_colourOf_3 (fun r2 u1 H locs h hw => ?_)
  refine lv_istore_n (lv' := [(3, .int r2), (0, .ref (a 1)), (1, .int x1), (2, .int x2)]) hx hb d_Pic_colourOf_6 rfl hl (by decide) rfl (fun ls hl => ?_)
  refine lv_iload_n hx hb d_Pic_colourOf_7 rfl (lv_at hl 0 rfl) ?_
  refine lv_if_lt (tgt := 22) hx hb d_Pic_colourOf_8 (by decide) (fun c3 => ?_) (fun c3 => ?_)
  · have h := h.1 c3
    refine lv_iconst (v := (-1)) hx hb d_Pic_colourOf_22 (by decide) ?_
    exact retI (out := fun u => [e_Pic a Pic_width Pic_height Pic_stride, e_ar a n cI 8 pb]) (u := ()) E hr hlk rfl hw h d_Pic_colourOf_23
  · have h := h.2 c3
    refine lv_iload_n hx hb d_Pic_colourOf_11 rfl (lv_at hl 0 rfl) ?_
    refine lv_aload_n hx hb d_Pic_colourOf_12 rfl (lv_at hl 1 rfl) ?_
    refine kget (v := .ref (a 8)) (T := F_Pic) E hw in_Pic rfl 0 3 rfl (by decide) tw75 rfl d_Pic_colourOf_13 ?_
    refine kalen E hw 1 rfl d_Pic_colourOf_16 ?_
    refine lv_iconst (v := 2) hx hb d_Pic_colourOf_17 (by decide) ?_
    refine lv_isub hx hb d_Pic_colourOf_18 ?_
    refine lv_icmp_lt (tgt := 24) hx hb d_Pic_colourOf_19 (by decide) (fun c4 => ?_) (fun c4 => ?_)
    · have h := h.1 c4
      refine lv_aload_n hx hb d_Pic_colourOf_24 rfl (lv_at hl 1 rfl) ?_
      refine kget (v := .ref (a 8)) (T := F_Pic) E hw in_Pic rfl 0 3 rfl (by decide) tw75 rfl d_Pic_colourOf_25 ?_
      refine lv_iload_n hx hb d_Pic_colourOf_28 rfl (lv_at hl 0 rfl) ?_
      obtain ⟨b5, h⟩ := h
      refine kald E hw 1 rfl b5 d_Pic_colourOf_29 ?_
      refine lv_bipush (v := 16) hx hb d_Pic_colourOf_30 (by decide) ?_
      refine lv_ishl hx hb d_Pic_colourOf_32 ?_
      refine lv_aload_n hx hb d_Pic_colourOf_33 rfl (lv_at hl 1 rfl) ?_
      refine kget (v := .ref (a 8)) (T := F_Pic) E hw in_Pic rfl 0 3 rfl (by decide) tw75 rfl d_Pic_colourOf_34 ?_
      refine lv_iload_n hx hb d_Pic_colourOf_37 rfl (lv_at hl 0 rfl) ?_
      refine lv_iconst (v := 1) hx hb d_Pic_colourOf_38 (by decide) ?_
      refine lv_iadd hx hb d_Pic_colourOf_39 ?_
      obtain ⟨b6, h⟩ := h
      refine kald E hw 1 rfl b6 d_Pic_colourOf_40 ?_
      refine lv_bipush (v := 8) hx hb d_Pic_colourOf_41 (by decide) ?_
      refine lv_ishl hx hb d_Pic_colourOf_43 ?_
      refine lv_ior hx hb d_Pic_colourOf_44 ?_
      refine lv_aload_n hx hb d_Pic_colourOf_45 rfl (lv_at hl 1 rfl) ?_
      refine kget (v := .ref (a 8)) (T := F_Pic) E hw in_Pic rfl 0 3 rfl (by decide) tw75 rfl d_Pic_colourOf_46 ?_
      refine lv_iload_n hx hb d_Pic_colourOf_49 rfl (lv_at hl 0 rfl) ?_
      refine lv_iconst (v := 2) hx hb d_Pic_colourOf_50 (by decide) ?_
      refine lv_iadd hx hb d_Pic_colourOf_51 ?_
      obtain ⟨b7, h⟩ := h
      refine kald E hw 1 rfl b7 d_Pic_colourOf_52 ?_
      refine lv_ior hx hb d_Pic_colourOf_53 ?_
      exact retI (out := fun u => [e_Pic a Pic_width Pic_height Pic_stride, e_ar a n cI 8 pb]) (u := ()) E hr hlk rfl hw h d_Pic_colourOf_54
    · have h := h.2 c4
      refine lv_iconst (v := (-1)) hx hb d_Pic_colourOf_22 (by decide) ?_
      exact retI (out := fun u => [e_Pic a Pic_width Pic_height Pic_stride, e_ar a n cI 8 pb]) (u := ()) E hr hlk rfl hw h d_Pic_colourOf_23
-- PicturePacker$Picture.nearest(III)I
theorem d_Pic_nearest_0 : decode prog_5_method_8_code 0 = .ok (.iload_n 0, 1) := by decide +kernel
theorem d_Pic_nearest_1 : decode prog_5_method_8_code 1 = .ok (.iload_n 1, 1) := by decide +kernel
theorem d_Pic_nearest_2 : decode prog_5_method_8_code 2 = .ok (.iadd, 1) := by decide +kernel
theorem d_Pic_nearest_3 : decode prog_5_method_8_code 3 = .ok (.iload_n 2, 1) := by decide +kernel
theorem d_Pic_nearest_4 : decode prog_5_method_8_code 4 = .ok (.isub, 1) := by decide +kernel
theorem d_Pic_nearest_5 : decode prog_5_method_8_code 5 = .ok (.istore_n 3, 1) := by decide +kernel
theorem d_Pic_nearest_6 : decode prog_5_method_8_code 6 = .ok (.iload_n 3, 1) := by decide +kernel
theorem d_Pic_nearest_7 : decode prog_5_method_8_code 7 = .ok (.iload_n 0, 1) := by decide +kernel
theorem d_Pic_nearest_8 : decode prog_5_method_8_code 8 = .ok (.isub, 1) := by decide +kernel
theorem d_Pic_nearest_9 : decode prog_5_method_8_code 9 = .ok (.invokestatic 37, 3) := by decide +kernel
theorem d_Pic_nearest_12 : decode prog_5_method_8_code 12 = .ok (.istore 4, 2) := by decide +kernel
theorem d_Pic_nearest_14 : decode prog_5_method_8_code 14 = .ok (.iload_n 3, 1) := by decide +kernel
theorem d_Pic_nearest_15 : decode prog_5_method_8_code 15 = .ok (.iload_n 1, 1) := by decide +kernel
theorem d_Pic_nearest_16 : decode prog_5_method_8_code 16 = .ok (.isub, 1) := by decide +kernel
theorem d_Pic_nearest_17 : decode prog_5_method_8_code 17 = .ok (.invokestatic 37, 3) := by decide +kernel
theorem d_Pic_nearest_20 : decode prog_5_method_8_code 20 = .ok (.istore 5, 2) := by decide +kernel
theorem d_Pic_nearest_22 : decode prog_5_method_8_code 22 = .ok (.iload_n 3, 1) := by decide +kernel
theorem d_Pic_nearest_23 : decode prog_5_method_8_code 23 = .ok (.iload_n 2, 1) := by decide +kernel
theorem d_Pic_nearest_24 : decode prog_5_method_8_code 24 = .ok (.isub, 1) := by decide +kernel
theorem d_Pic_nearest_25 : decode prog_5_method_8_code 25 = .ok (.invokestatic 37, 3) := by decide +kernel
theorem d_Pic_nearest_28 : decode prog_5_method_8_code 28 = .ok (.istore 6, 2) := by decide +kernel
theorem d_Pic_nearest_30 : decode prog_5_method_8_code 30 = .ok (.iload 4, 2) := by decide +kernel
theorem d_Pic_nearest_32 : decode prog_5_method_8_code 32 = .ok (.iload 5, 2) := by decide +kernel
theorem d_Pic_nearest_34 : decode prog_5_method_8_code 34 = .ok (.if_icmp .gt 12, 3) := by decide +kernel
theorem d_Pic_nearest_37 : decode prog_5_method_8_code 37 = .ok (.iload 4, 2) := by decide +kernel
theorem d_Pic_nearest_39 : decode prog_5_method_8_code 39 = .ok (.iload 6, 2) := by decide +kernel
theorem d_Pic_nearest_41 : decode prog_5_method_8_code 41 = .ok (.if_icmp .gt 5, 3) := by decide +kernel
theorem d_Pic_nearest_44 : decode prog_5_method_8_code 44 = .ok (.iload_n 0, 1) := by decide +kernel
theorem d_Pic_nearest_45 : decode prog_5_method_8_code 45 = .ok (.ireturn, 1) := by decide +kernel
theorem d_Pic_nearest_46 : decode prog_5_method_8_code 46 = .ok (.iload 5, 2) := by decide +kernel
theorem d_Pic_nearest_48 : decode prog_5_method_8_code 48 = .ok (.iload 6, 2) := by decide +kernel
theorem d_Pic_nearest_50 : decode prog_5_method_8_code 50 = .ok (.if_icmp .gt 7, 3) := by decide +kernel
theorem d_Pic_nearest_53 : decode prog_5_method_8_code 53 = .ok (.iload_n 1, 1) := by decide +kernel
theorem d_Pic_nearest_54 : decode prog_5_method_8_code 54 = .ok (.goto 4, 3) := by decide +kernel
theorem d_Pic_nearest_57 : decode prog_5_method_8_code 57 = .ok (.iload_n 2, 1) := by decide +kernel
theorem d_Pic_nearest_58 : decode prog_5_method_8_code 58 = .ok (.ireturn, 1) := by decide +kernel
abbrev y_Pic_nearest : MethodName := ⟨"PicturePacker$Picture", "nearest", "(III)I"⟩
def wp_Pic_nearest_46 (n : Nat → Nat) (x0 : Int32) (x1 : Int32) (x2 : Int32) (post : Int32 → Unit → Prop) (y5 : Int32) (y6 : Int32) : Prop := ((y6 : Int32) < y5 → (post x2 ())) ∧ (¬ ((y6 : Int32) < y5) → (post x1 ()))
def wp_Pic_nearest (n : Nat → Nat) (x0 : Int32) (x1 : Int32) (x2 : Int32) (post : Int32 → Unit → Prop) : Prop := ∀ z1 : Int32, z1 = ((x0 + x1) - x2) → (∀ z2 : Int32, z2 = (if 0 ≤ (z1 - x0 : Int32) then z1 - x0 else 0 - (z1 - x0)) → (∀ z3 : Int32, z3 = (if 0 ≤ (z1 - x1 : Int32) then z1 - x1 else 0 - (z1 - x1)) → (∀ z4 : Int32, z4 = (if 0 ≤ (z1 - x2 : Int32) then z1 - x2 else 0 - (z1 - x2)) → (((z3 : Int32) < z2 → (wp_Pic_nearest_46 n x0 x1 x2 post z3 z4)) ∧ (¬ ((z3 : Int32) < z2) → (((z4 : Int32) < z2 → (wp_Pic_nearest_46 n x0 x1 x2 post z3 z4)) ∧ (¬ ((z4 : Int32) < z2) → (post x0 ()))))))))
set_option maxHeartbeats 2000000 in
set_option maxRecDepth 20000 in
theorem s_Pic_nearest_46 {l : Launch} {dC : Nat → ClassId} {dI : Nat → Nat → Nat} {cI : ClassId} {tb a n : Nat → Nat} {p : Program} {e : Env} {s : State} {m : MethodId} {args : Array Value} {below : List Frame} {meth : Method} {c : Code} {A : Nat → Prop} (E : CallFix p m c prog_5_method_8_code 7 s args TBL "PicturePacker$Picture") (hr : meth.sig.returnType = some .int) (hlk : meth.locks = false) {x0 : Int32} {x1 : Int32} {x2 : Int32} {post : Int32 → Unit → Prop} : ∀ (y5 : Int32) (y6 : Int32) (H : Heap) (locs : List Loc) (ls : Array Slot), Wl classes dC dI cI tb A s H locs [] → lv_has ls 7 [(1, .int x1), (2, .int x2), (5, .int y5), (6, .int y6)] → wp_Pic_nearest_46 n x0 x1 x2 post y5 y6 → W p l e ({ frames := 1, cells := 0, slots := 0, locals := 21 }) s m args below meth c H locs 0 0 (MQ below (va_Qi post (fun u => End0 classes dC dI cI A []) A) args s 0 0 A) (F0 m 46 ls []) := by
  obtain ⟨hx, hb, hml, hown, hts⟩ := id E
  intro y5 y6 H locs ls hw hl h
  unfold wp_Pic_nearest_46 at h
  refine lv_iload hx hb d_Pic_nearest_46 (lv_at hl 2 rfl) ?_
  refine lv_iload hx hb d_Pic_nearest_48 (lv_at hl 3 rfl) ?_
  refine lv_icmp_gt (tgt := 57) hx hb d_Pic_nearest_50 (by decide) (fun c6 => ?_) (fun c6 => ?_)
  · have h := h.1 c6
    refine lv_iload_n hx hb d_Pic_nearest_57 rfl (lv_at hl 1 rfl) ?_
    exact retI (out := fun u => []) (u := ()) E hr hlk rfl hw h d_Pic_nearest_58
  · have h := h.2 c6
    refine lv_iload_n hx hb d_Pic_nearest_53 rfl (lv_at hl 0 rfl) ?_
    refine lv_goto (tgt := 58) hx hb d_Pic_nearest_54 (by decide) ?_
    exact retI (out := fun u => []) (u := ()) E hr hlk rfl hw h d_Pic_nearest_58
set_option maxHeartbeats 2000000 in
set_option maxRecDepth 20000 in
theorem c_Pic_nearest {l : Launch} {dC : Nat → ClassId} {dI : Nat → Nat → Nat} {cI : ClassId} {tb a n : Nat → Nat} {x0 : Int32} {x1 : Int32} {x2 : Int32} {post : Int32 → Unit → Prop} (h : wp_Pic_nearest n x0 x1 x2 post) : CtI classes dC dI cI tb l y_Pic_nearest prog_5_method_8_code 7 .int ({ frames := 1, cells := 0, slots := 0, locals := 21 }) [.int x0, .int x1, .int x2] [] (Unit) (fun _ => []) post := by
  refine startI (by decide) (Nat.le_of_ble_eq_true rfl) ?_
  intro p e s m below meth c ls E hr hlk hnm hl hw
  have hl : lv_has ls 7 [(0, .int x0), (1, .int x1), (2, .int x2)] := hl
  generalize va_A [] s.heap.size = A at hw ⊢
  obtain ⟨hx, hb, hml, hown, hts⟩ := id E
  unfold wp_Pic_nearest at h
  refine lv_iload_n hx hb d_Pic_nearest_0 rfl (lv_at hl 0 rfl) ?_
  refine lv_iload_n hx hb d_Pic_nearest_1 rfl (lv_at hl 1 rfl) ?_
  refine lv_iadd hx hb d_Pic_nearest_2 ?_
  refine lv_iload_n hx hb d_Pic_nearest_3 rfl (lv_at hl 2 rfl) ?_
  refine lv_isub hx hb d_Pic_nearest_4 ?_
  refine lv_topi (fun z1 ez1 => ?_)
  have h := h z1 ez1
  refine lv_istore_n (lv' := [(3, .int z1), (0, .int x0), (1, .int x1), (2, .int x2)]) hx hb d_Pic_nearest_5 rfl hl (by decide) rfl (fun ls hl => ?_)
  refine lv_iload_n hx hb d_Pic_nearest_6 rfl (lv_at hl 0 rfl) ?_
  refine lv_iload_n hx hb d_Pic_nearest_7 rfl (lv_at hl 1 rfl) ?_
  refine lv_isub hx hb d_Pic_nearest_8 ?_
  refine kabs E hl.1 tw282 tw283 tw37 tw284 (Nat.le_of_ble_eq_true rfl) (Nat.le_of_ble_eq_true rfl) (Nat.le_of_ble_eq_true rfl) (Nat.le_of_ble_eq_true rfl) d_Pic_nearest_9 ?_
  refine lv_topi (fun z2 ez2 => ?_)
  have h := h z2 ez2
  refine lv_istore (lv' := [(4, .int z2), (3, .int z1), (0, .int x0), (1, .int x1), (2, .int x2)]) hx hb d_Pic_nearest_12 hl (by decide) rfl (fun ls hl => ?_)
  refine lv_iload_n hx hb d_Pic_nearest_14 rfl (lv_at hl 1 rfl) ?_
  refine lv_iload_n hx hb d_Pic_nearest_15 rfl (lv_at hl 3 rfl) ?_
  refine lv_isub hx hb d_Pic_nearest_16 ?_
  refine kabs E hl.1 tw282 tw283 tw37 tw284 (Nat.le_of_ble_eq_true rfl) (Nat.le_of_ble_eq_true rfl) (Nat.le_of_ble_eq_true rfl) (Nat.le_of_ble_eq_true rfl) d_Pic_nearest_17 ?_
  refine lv_topi (fun z3 ez3 => ?_)
  have h := h z3 ez3
  refine lv_istore (lv' := [(5, .int z3), (4, .int z2), (3, .int z1), (0, .int x0), (1, .int x1), (2, .int x2)]) hx hb d_Pic_nearest_20 hl (by decide) rfl (fun ls hl => ?_)
  refine lv_iload_n hx hb d_Pic_nearest_22 rfl (lv_at hl 2 rfl) ?_
  refine lv_iload_n hx hb d_Pic_nearest_23 rfl (lv_at hl 5 rfl) ?_
  refine lv_isub hx hb d_Pic_nearest_24 ?_
  refine kabs E hl.1 tw282 tw283 tw37 tw284 (Nat.le_of_ble_eq_true rfl) (Nat.le_of_ble_eq_true rfl) (Nat.le_of_ble_eq_true rfl) (Nat.le_of_ble_eq_true rfl) d_Pic_nearest_25 ?_
  refine lv_topi (fun z4 ez4 => ?_)
  have h := h z4 ez4
  refine lv_istore (lv' := [(6, .int z4), (5, .int z3), (4, .int z2), (3, .int z1), (0, .int x0), (1, .int x1), (2, .int x2)]) hx hb d_Pic_nearest_28 hl (by decide) rfl (fun ls hl => ?_)
  refine lv_iload hx hb d_Pic_nearest_30 (lv_at hl 2 rfl) ?_
  refine lv_iload hx hb d_Pic_nearest_32 (lv_at hl 1 rfl) ?_
  refine lv_icmp_gt (tgt := 46) hx hb d_Pic_nearest_34 (by decide) (fun c5 => ?_) (fun c5 => ?_)
  · have h := h.1 c5
    exact s_Pic_nearest_46 (a := a) (n := n) (tb := tb) E hr hlk  z3 z4 _ _ ls hw (lv_sub hl [5, 6, 1, 0] rfl) h
  · have h := h.2 c5
    refine lv_iload hx hb d_Pic_nearest_37 (lv_at hl 2 rfl) ?_
    refine lv_iload hx hb d_Pic_nearest_39 (lv_at hl 0 rfl) ?_
    refine lv_icmp_gt (tgt := 46) hx hb d_Pic_nearest_41 (by decide) (fun c7 => ?_) (fun c7 => ?_)
    · have h := h.1 c7
      exact s_Pic_nearest_46 (a := a) (n := n) (tb := tb) E hr hlk  z3 z4 _ _ ls hw (lv_sub hl [5, 6, 1, 0] rfl) h
    · have h := h.2 c7
      refine lv_iload_n hx hb d_Pic_nearest_44 rfl (lv_at hl 4 rfl) ?_
      exact retI (out := fun u => []) (u := ()) E hr hlk rfl hw h d_Pic_nearest_45
-- PicturePacker$Picture.guess(IIII)I
theorem d_Pic_guess_0 : decode prog_5_method_7_code 0 = .ok (.iload_n 0, 1) := by decide +kernel
theorem d_Pic_guess_1 : decode prog_5_method_7_code 1 = .ok (.tableswitch 48 1 4 #[31, 33, 35, 41], 31) := by decide +kernel
theorem d_Pic_guess_32 : decode prog_5_method_7_code 32 = .ok (.iload_n 1, 1) := by decide +kernel
theorem d_Pic_guess_33 : decode prog_5_method_7_code 33 = .ok (.ireturn, 1) := by decide +kernel
theorem d_Pic_guess_34 : decode prog_5_method_7_code 34 = .ok (.iload_n 2, 1) := by decide +kernel
theorem d_Pic_guess_35 : decode prog_5_method_7_code 35 = .ok (.ireturn, 1) := by decide +kernel
theorem d_Pic_guess_36 : decode prog_5_method_7_code 36 = .ok (.iload_n 1, 1) := by decide +kernel
theorem d_Pic_guess_37 : decode prog_5_method_7_code 37 = .ok (.iload_n 2, 1) := by decide +kernel
theorem d_Pic_guess_38 : decode prog_5_method_7_code 38 = .ok (.iadd, 1) := by decide +kernel
theorem d_Pic_guess_39 : decode prog_5_method_7_code 39 = .ok (.iconst 1, 1) := by decide +kernel
theorem d_Pic_guess_40 : decode prog_5_method_7_code 40 = .ok (.ishr, 1) := by decide +kernel
theorem d_Pic_guess_41 : decode prog_5_method_7_code 41 = .ok (.ireturn, 1) := by decide +kernel
theorem d_Pic_guess_42 : decode prog_5_method_7_code 42 = .ok (.iload_n 1, 1) := by decide +kernel
theorem d_Pic_guess_43 : decode prog_5_method_7_code 43 = .ok (.iload_n 2, 1) := by decide +kernel
theorem d_Pic_guess_44 : decode prog_5_method_7_code 44 = .ok (.iload_n 3, 1) := by decide +kernel
theorem d_Pic_guess_45 : decode prog_5_method_7_code 45 = .ok (.invokestatic 33, 3) := by decide +kernel
theorem d_Pic_guess_48 : decode prog_5_method_7_code 48 = .ok (.ireturn, 1) := by decide +kernel
theorem d_Pic_guess_49 : decode prog_5_method_7_code 49 = .ok (.iconst 0, 1) := by decide +kernel
theorem d_Pic_guess_50 : decode prog_5_method_7_code 50 = .ok (.ireturn, 1) := by decide +kernel
abbrev y_Pic_guess : MethodName := ⟨"PicturePacker$Picture", "guess", "(IIII)I"⟩
def wp_Pic_guess (n : Nat → Nat) (x0 : Int32) (x1 : Int32) (x2 : Int32) (x3 : Int32) (post : Int32 → Unit → Prop) : Prop := ((x0 : Int32) = 1 → (post x1 ())) ∧ ((x0 : Int32) = 2 → (post x2 ())) ∧ ((x0 : Int32) = 3 → (post ((x1 + x2 : Int32) >>> (1 &&& 31)) ())) ∧ ((x0 : Int32) = 4 → (wp_Pic_nearest n x1 x2 x3 (fun r5 _ => post r5 ()))) ∧ (¬ (x0 : Int32) = 1 → ¬ (x0 : Int32) = 2 → ¬ (x0 : Int32) = 3 → ¬ (x0 : Int32) = 4 → (post 0 ()))
set_option maxHeartbeats 2000000 in
set_option maxRecDepth 20000 in
theorem c_Pic_guess {l : Launch} {dC : Nat → ClassId} {dI : Nat → Nat → Nat} {cI : ClassId} {tb a n : Nat → Nat} {x0 : Int32} {x1 : Int32} {x2 : Int32} {x3 : Int32} {post : Int32 → Unit → Prop} (h : wp_Pic_guess n x0 x1 x2 x3 post) : CtI classes dC dI cI tb l y_Pic_guess prog_5_method_7_code 4 .int ({ frames := 2, cells := 0, slots := 0, locals := 47 }) [.int x0, .int x1, .int x2, .int x3] [] (Unit) (fun _ => []) post := by
  refine startI (by decide) (Nat.le_of_ble_eq_true rfl) ?_
  intro p e s m below meth c ls E hr hlk hnm hl hw
  have hl : lv_has ls 4 [(0, .int x0), (1, .int x1), (2, .int x2), (3, .int x3)] := hl
  generalize va_A [] s.heap.size = A at hw ⊢
  obtain ⟨hx, hb, hml, hown, hts⟩ := id E
  unfold wp_Pic_guess at h
  refine lv_iload_n hx hb d_Pic_guess_0 rfl (lv_at hl 0 rfl) ?_
  by_cases c1 : (x0 : Int32) = 1
  · have h := h.1 c1
    refine lv_tableIn (tgt := 32) (off := 31) hx hb d_Pic_guess_1 (by rw [c1]; decide) (by rw [c1]; decide) (by rw [c1]; decide) (by decide) ?_
    refine lv_iload_n hx hb d_Pic_guess_32 rfl (lv_at hl 1 rfl) ?_
    exact retI (out := fun u => []) (u := ()) E hr hlk rfl hw h d_Pic_guess_33
  · skip
    by_cases c2 : (x0 : Int32) = 2
    · have h := h.2.1 c2
      refine lv_tableIn (tgt := 34) (off := 33) hx hb d_Pic_guess_1 (by rw [c2]; decide) (by rw [c2]; decide) (by rw [c2]; decide) (by decide) ?_
      refine lv_iload_n hx hb d_Pic_guess_34 rfl (lv_at hl 2 rfl) ?_
      exact retI (out := fun u => []) (u := ()) E hr hlk rfl hw h d_Pic_guess_35
    · skip
      by_cases c3 : (x0 : Int32) = 3
      · have h := h.2.2.1 c3
        refine lv_tableIn (tgt := 36) (off := 35) hx hb d_Pic_guess_1 (by rw [c3]; decide) (by rw [c3]; decide) (by rw [c3]; decide) (by decide) ?_
        refine lv_iload_n hx hb d_Pic_guess_36 rfl (lv_at hl 1 rfl) ?_
        refine lv_iload_n hx hb d_Pic_guess_37 rfl (lv_at hl 2 rfl) ?_
        refine lv_iadd hx hb d_Pic_guess_38 ?_
        refine lv_iconst (v := 1) hx hb d_Pic_guess_39 (by decide) ?_
        refine lv_ishr hx hb d_Pic_guess_40 ?_
        exact retI (out := fun u => []) (u := ()) E hr hlk rfl hw h d_Pic_guess_41
      · skip
        by_cases c6 : (x0 : Int32) = 4
        · have h := h.2.2.2.1 c6
          refine lv_tableIn (tgt := 42) (off := 41) hx hb d_Pic_guess_1 (by rw [c6]; decide) (by rw [c6]; decide) (by rw [c6]; decide) (by decide) ?_
          refine lv_iload_n hx hb d_Pic_guess_42 rfl (lv_at hl 1 rfl) ?_
          refine lv_iload_n hx hb d_Pic_guess_43 rfl (lv_at hl 2 rfl) ?_
          refine lv_iload_n hx hb d_Pic_guess_44 rfl (lv_at hl 3 rfl) ?_
          refine kSi (y := y_Pic_nearest) (ws' := fun _ => []) (wr := []) (As := [.int x1, .int x2, .int x3]) (rest := []) E hw (c_Pic_nearest (l := l) (dC := dC) (dI := dI) (cI := cI) (tb := tb) (a := a) (n := n)  (x0 := x1) (x1 := x2) (x2 := x3) h) tw279 tw280 tw36 tw281 3 (by decide) ⟨Nat.le_of_ble_eq_true rfl, Nat.le_of_ble_eq_true rfl⟩ ⟨Nat.le_of_ble_eq_true rfl, Nat.le_of_ble_eq_true rfl⟩ ⟨rfl, rfl⟩ [] [] [] rfl rfl rfl rfl (by decide) rfl (fun _ => rfl) hl.1 rfl rfl (Nat.le_of_ble_eq_true rfl) d_Pic_guess_45 (fun r5 u4 H locs h hw => ?_)
          exact retI (out := fun u => []) (u := ()) E hr hlk rfl hw h d_Pic_guess_48
        · skip
          have h := h.2.2.2.2 c1 c2 c3 c6
          have qc1 := lv_neT c1 (a := 1) (by decide)
          have qc2 := lv_neT c2 (a := 2) (by decide)
          have qc3 := lv_neT c3 (a := 3) (by decide)
          have qc6 := lv_neT c6 (a := 4) (by decide)
          refine lv_tableOut (tgt := 49) hx hb d_Pic_guess_1 (by omega) (by decide) ?_
          refine lv_iconst (v := 0) hx hb d_Pic_guess_49 (by decide) ?_
          exact retI (out := fun u => []) (u := ()) E hr hlk rfl hw h d_Pic_guess_50
-- PicturePacker$Picture.lessGuess(II)I
theorem d_Pic_lessGuess_0 : decode prog_5_method_6_code 0 = .ok (.iload_n 2, 1) := by decide +kernel
theorem d_Pic_lessGuess_1 : decode prog_5_method_6_code 1 = .ok (.aload_n 0, 1) := by decide +kernel
theorem d_Pic_lessGuess_2 : decode prog_5_method_6_code 2 = .ok (.getfield 18, 3) := by decide +kernel
theorem d_Pic_lessGuess_5 : decode prog_5_method_6_code 5 = .ok (.iconst 3, 1) := by decide +kernel
theorem d_Pic_lessGuess_6 : decode prog_5_method_6_code 6 = .ok (.iadd, 1) := by decide +kernel
theorem d_Pic_lessGuess_7 : decode prog_5_method_6_code 7 = .ok (.if_icmp .lt 12, 3) := by decide +kernel
theorem d_Pic_lessGuess_10 : decode prog_5_method_6_code 10 = .ok (.iload_n 2, 1) := by decide +kernel
theorem d_Pic_lessGuess_11 : decode prog_5_method_6_code 11 = .ok (.aload_n 0, 1) := by decide +kernel
theorem d_Pic_lessGuess_12 : decode prog_5_method_6_code 12 = .ok (.getfield 21, 3) := by decide +kernel
theorem d_Pic_lessGuess_15 : decode prog_5_method_6_code 15 = .ok (.arraylength, 1) := by decide +kernel
theorem d_Pic_lessGuess_16 : decode prog_5_method_6_code 16 = .ok (.if_icmp .lt 5, 3) := by decide +kernel
theorem d_Pic_lessGuess_19 : decode prog_5_method_6_code 19 = .ok (.iconst 0, 1) := by decide +kernel
theorem d_Pic_lessGuess_20 : decode prog_5_method_6_code 20 = .ok (.ireturn, 1) := by decide +kernel
theorem d_Pic_lessGuess_21 : decode prog_5_method_6_code 21 = .ok (.aload_n 0, 1) := by decide +kernel
theorem d_Pic_lessGuess_22 : decode prog_5_method_6_code 22 = .ok (.getfield 21, 3) := by decide +kernel
theorem d_Pic_lessGuess_25 : decode prog_5_method_6_code 25 = .ok (.iload_n 2, 1) := by decide +kernel
theorem d_Pic_lessGuess_26 : decode prog_5_method_6_code 26 = .ok (.iconst 3, 1) := by decide +kernel
theorem d_Pic_lessGuess_27 : decode prog_5_method_6_code 27 = .ok (.isub, 1) := by decide +kernel
theorem d_Pic_lessGuess_28 : decode prog_5_method_6_code 28 = .ok (.iaload, 1) := by decide +kernel
theorem d_Pic_lessGuess_29 : decode prog_5_method_6_code 29 = .ok (.istore_n 3, 1) := by decide +kernel
theorem d_Pic_lessGuess_30 : decode prog_5_method_6_code 30 = .ok (.aload_n 0, 1) := by decide +kernel
theorem d_Pic_lessGuess_31 : decode prog_5_method_6_code 31 = .ok (.getfield 21, 3) := by decide +kernel
theorem d_Pic_lessGuess_34 : decode prog_5_method_6_code 34 = .ok (.iload_n 2, 1) := by decide +kernel
theorem d_Pic_lessGuess_35 : decode prog_5_method_6_code 35 = .ok (.aload_n 0, 1) := by decide +kernel
theorem d_Pic_lessGuess_36 : decode prog_5_method_6_code 36 = .ok (.getfield 18, 3) := by decide +kernel
theorem d_Pic_lessGuess_39 : decode prog_5_method_6_code 39 = .ok (.isub, 1) := by decide +kernel
theorem d_Pic_lessGuess_40 : decode prog_5_method_6_code 40 = .ok (.iaload, 1) := by decide +kernel
theorem d_Pic_lessGuess_41 : decode prog_5_method_6_code 41 = .ok (.istore 4, 2) := by decide +kernel
theorem d_Pic_lessGuess_43 : decode prog_5_method_6_code 43 = .ok (.aload_n 0, 1) := by decide +kernel
theorem d_Pic_lessGuess_44 : decode prog_5_method_6_code 44 = .ok (.getfield 21, 3) := by decide +kernel
theorem d_Pic_lessGuess_47 : decode prog_5_method_6_code 47 = .ok (.iload_n 2, 1) := by decide +kernel
theorem d_Pic_lessGuess_48 : decode prog_5_method_6_code 48 = .ok (.aload_n 0, 1) := by decide +kernel
theorem d_Pic_lessGuess_49 : decode prog_5_method_6_code 49 = .ok (.getfield 18, 3) := by decide +kernel
theorem d_Pic_lessGuess_52 : decode prog_5_method_6_code 52 = .ok (.isub, 1) := by decide +kernel
theorem d_Pic_lessGuess_53 : decode prog_5_method_6_code 53 = .ok (.iconst 3, 1) := by decide +kernel
theorem d_Pic_lessGuess_54 : decode prog_5_method_6_code 54 = .ok (.isub, 1) := by decide +kernel
theorem d_Pic_lessGuess_55 : decode prog_5_method_6_code 55 = .ok (.iaload, 1) := by decide +kernel
theorem d_Pic_lessGuess_56 : decode prog_5_method_6_code 56 = .ok (.istore 5, 2) := by decide +kernel
theorem d_Pic_lessGuess_58 : decode prog_5_method_6_code 58 = .ok (.aload_n 0, 1) := by decide +kernel
theorem d_Pic_lessGuess_59 : decode prog_5_method_6_code 59 = .ok (.getfield 21, 3) := by decide +kernel
theorem d_Pic_lessGuess_62 : decode prog_5_method_6_code 62 = .ok (.iload_n 2, 1) := by decide +kernel
theorem d_Pic_lessGuess_63 : decode prog_5_method_6_code 63 = .ok (.iaload, 1) := by decide +kernel
theorem d_Pic_lessGuess_64 : decode prog_5_method_6_code 64 = .ok (.iload_n 1, 1) := by decide +kernel
theorem d_Pic_lessGuess_65 : decode prog_5_method_6_code 65 = .ok (.iload_n 3, 1) := by decide +kernel
theorem d_Pic_lessGuess_66 : decode prog_5_method_6_code 66 = .ok (.iload 4, 2) := by decide +kernel
theorem d_Pic_lessGuess_68 : decode prog_5_method_6_code 68 = .ok (.iload 5, 2) := by decide +kernel
theorem d_Pic_lessGuess_70 : decode prog_5_method_6_code 70 = .ok (.invokestatic 29, 3) := by decide +kernel
theorem d_Pic_lessGuess_73 : decode prog_5_method_6_code 73 = .ok (.isub, 1) := by decide +kernel
theorem d_Pic_lessGuess_74 : decode prog_5_method_6_code 74 = .ok (.sipush 255, 3) := by decide +kernel
theorem d_Pic_lessGuess_77 : decode prog_5_method_6_code 77 = .ok (.iand, 1) := by decide +kernel
theorem d_Pic_lessGuess_78 : decode prog_5_method_6_code 78 = .ok (.ireturn, 1) := by decide +kernel
abbrev y_Pic_lessGuess : MethodName := ⟨"PicturePacker$Picture", "lessGuess", "(II)I"⟩
def wp_Pic_lessGuess (n : Nat → Nat) (Pic_stride : Int32) (pb : Nat → Int32) (x1 : Int32) (x2 : Int32) (post : Int32 → Unit → Prop) : Prop := ((x2 : Int32) < (Pic_stride + 3) → (post 0 ())) ∧ (¬ ((x2 : Int32) < (Pic_stride + 3)) → (((x2 : Int32) < (nI (n 8)) → (vp_in (x2 - 3) (n 8) ∧ (∀ z4 : Int32, z4 = (pb (x2 - 3 : Int32).toNatClampNeg) → (vp_in (x2 - Pic_stride) (n 8) ∧ (∀ z6 : Int32, z6 = (pb (x2 - Pic_stride : Int32).toNatClampNeg) → (vp_in ((x2 - Pic_stride) - 3) (n 8) ∧ (∀ z8 : Int32, z8 = (pb ((x2 - Pic_stride) - 3 : Int32).toNatClampNeg) → (vp_in x2 (n 8) ∧ (wp_Pic_guess n x1 z4 z6 z8 (fun r11 _ => post (((pb (x2 : Int32).toNatClampNeg) - r11) &&& 255) ())))))))))) ∧ (¬ ((x2 : Int32) < (nI (n 8))) → (post 0 ()))))
set_option maxHeartbeats 2000000 in
set_option maxRecDepth 20000 in
theorem c_Pic_lessGuess {l : Launch} {dC : Nat → ClassId} {dI : Nat → Nat → Nat} {cI : ClassId} {tb a n : Nat → Nat} {Pic_width : Int32} {Pic_height : Int32} {Pic_stride : Int32} {pb : Nat → Int32} {x1 : Int32} {x2 : Int32} {post : Int32 → Unit → Prop} (h : wp_Pic_lessGuess n Pic_stride pb x1 x2 post) : CtI classes dC dI cI tb l y_Pic_lessGuess prog_5_method_6_code 6 .int ({ frames := 3, cells := 0, slots := 0, locals := 70 }) [.ref (a 1), .int x1, .int x2] [e_Pic a Pic_width Pic_height Pic_stride, e_ar a n cI 8 pb] (Unit) (fun _ => [e_Pic a Pic_width Pic_height Pic_stride, e_ar a n cI 8 pb]) post := by
  refine startI (by decide) (Nat.le_of_ble_eq_true rfl) ?_
  intro p e s m below meth c ls E hr hlk hnm hl hw
  have hl : lv_has ls 6 [(0, .ref (a 1)), (1, .int x1), (2, .int x2)] := hl
  generalize va_A [e_Pic a Pic_width Pic_height Pic_stride, e_ar a n cI 8 pb] s.heap.size = A at hw ⊢
  obtain ⟨hx, hb, hml, hown, hts⟩ := id E
  unfold wp_Pic_lessGuess at h
  refine lv_iload_n hx hb d_Pic_lessGuess_0 rfl (lv_at hl 2 rfl) ?_
  refine lv_aload_n hx hb d_Pic_lessGuess_1 rfl (lv_at hl 0 rfl) ?_
  refine kget (v := .int Pic_stride) (T := F_Pic) E hw in_Pic rfl 0 2 rfl (by decide) tw74 rfl d_Pic_lessGuess_2 ?_
  refine lv_iconst (v := 3) hx hb d_Pic_lessGuess_5 (by decide) ?_
  refine lv_iadd hx hb d_Pic_lessGuess_6 ?_
  refine lv_icmp_lt (tgt := 19) hx hb d_Pic_lessGuess_7 (by decide) (fun c1 => ?_) (fun c1 => ?_)
  · have h := h.1 c1
    refine lv_iconst (v := 0) hx hb d_Pic_lessGuess_19 (by decide) ?_
    exact retI (out := fun u => [e_Pic a Pic_width Pic_height Pic_stride, e_ar a n cI 8 pb]) (u := ()) E hr hlk rfl hw h d_Pic_lessGuess_20
  · have h := h.2 c1
    refine lv_iload_n hx hb d_Pic_lessGuess_10 rfl (lv_at hl 2 rfl) ?_
    refine lv_aload_n hx hb d_Pic_lessGuess_11 rfl (lv_at hl 0 rfl) ?_
    refine kget (v := .ref (a 8)) (T := F_Pic) E hw in_Pic rfl 0 3 rfl (by decide) tw75 rfl d_Pic_lessGuess_12 ?_
    refine kalen E hw 1 rfl d_Pic_lessGuess_15 ?_
    refine lv_icmp_lt (tgt := 21) hx hb d_Pic_lessGuess_16 (by decide) (fun c2 => ?_) (fun c2 => ?_)
    · have h := h.1 c2
      refine lv_aload_n hx hb d_Pic_lessGuess_21 rfl (lv_at hl 0 rfl) ?_
      refine kget (v := .ref (a 8)) (T := F_Pic) E hw in_Pic rfl 0 3 rfl (by decide) tw75 rfl d_Pic_lessGuess_22 ?_
      refine lv_iload_n hx hb d_Pic_lessGuess_25 rfl (lv_at hl 2 rfl) ?_
      refine lv_iconst (v := 3) hx hb d_Pic_lessGuess_26 (by decide) ?_
      refine lv_isub hx hb d_Pic_lessGuess_27 ?_
      obtain ⟨b3, h⟩ := h
      refine kald E hw 1 rfl b3 d_Pic_lessGuess_28 ?_
      refine lv_topi (fun z4 ez4 => ?_)
      have h := h z4 ez4
      refine lv_istore_n (lv' := [(3, .int z4), (0, .ref (a 1)), (1, .int x1), (2, .int x2)]) hx hb d_Pic_lessGuess_29 rfl hl (by decide) rfl (fun ls hl => ?_)
      refine lv_aload_n hx hb d_Pic_lessGuess_30 rfl (lv_at hl 1 rfl) ?_
      refine kget (v := .ref (a 8)) (T := F_Pic) E hw in_Pic rfl 0 3 rfl (by decide) tw75 rfl d_Pic_lessGuess_31 ?_
      refine lv_iload_n hx hb d_Pic_lessGuess_34 rfl (lv_at hl 3 rfl) ?_
      refine lv_aload_n hx hb d_Pic_lessGuess_35 rfl (lv_at hl 1 rfl) ?_
      refine kget (v := .int Pic_stride) (T := F_Pic) E hw in_Pic rfl 0 2 rfl (by decide) tw74 rfl d_Pic_lessGuess_36 ?_
      refine lv_isub hx hb d_Pic_lessGuess_39 ?_
      obtain ⟨b5, h⟩ := h
      refine kald E hw 1 rfl b5 d_Pic_lessGuess_40 ?_
      refine lv_topi (fun z6 ez6 => ?_)
      have h := h z6 ez6
      refine lv_istore (lv' := [(4, .int z6), (3, .int z4), (0, .ref (a 1)), (1, .int x1), (2, .int x2)]) hx hb d_Pic_lessGuess_41 hl (by decide) rfl (fun ls hl => ?_)
      refine lv_aload_n hx hb d_Pic_lessGuess_43 rfl (lv_at hl 2 rfl) ?_
      refine kget (v := .ref (a 8)) (T := F_Pic) E hw in_Pic rfl 0 3 rfl (by decide) tw75 rfl d_Pic_lessGuess_44 ?_
      refine lv_iload_n hx hb d_Pic_lessGuess_47 rfl (lv_at hl 4 rfl) ?_
      refine lv_aload_n hx hb d_Pic_lessGuess_48 rfl (lv_at hl 2 rfl) ?_
      refine kget (v := .int Pic_stride) (T := F_Pic) E hw in_Pic rfl 0 2 rfl (by decide) tw74 rfl d_Pic_lessGuess_49 ?_
      refine lv_isub hx hb d_Pic_lessGuess_52 ?_
      refine lv_iconst (v := 3) hx hb d_Pic_lessGuess_53 (by decide) ?_
      refine lv_isub hx hb d_Pic_lessGuess_54 ?_
      obtain ⟨b7, h⟩ := h
      refine kald E hw 1 rfl b7 d_Pic_lessGuess_55 ?_
      refine lv_topi (fun z8 ez8 => ?_)
      have h := h z8 ez8
      refine lv_istore (lv' := [(5, .int z8), (4, .int z6), (3, .int z4), (0, .ref (a 1)), (1, .int x1), (2, .int x2)]) hx hb d_Pic_lessGuess_56 hl (by decide) rfl (fun ls hl => ?_)
      refine lv_aload_n hx hb d_Pic_lessGuess_58 rfl (lv_at hl 3 rfl) ?_
      refine kget (v := .ref (a 8)) (T := F_Pic) E hw in_Pic rfl 0 3 rfl (by decide) tw75 rfl d_Pic_lessGuess_59 ?_
      refine lv_iload_n hx hb d_Pic_lessGuess_62 rfl (lv_at hl 5 rfl) ?_
      obtain ⟨b9, h⟩ := h
      refine kald E hw 1 rfl b9 d_Pic_lessGuess_63 ?_
      refine lv_iload_n hx hb d_Pic_lessGuess_64 rfl (lv_at hl 4 rfl) ?_
      refine lv_iload_n hx hb d_Pic_lessGuess_65 rfl (lv_at hl 2 rfl) ?_
      refine lv_iload hx hb d_Pic_lessGuess_66 (lv_at hl 1 rfl) ?_
      refine lv_iload hx hb d_Pic_lessGuess_68 (lv_at hl 0 rfl) ?_
      refine kSi (y := y_Pic_guess) (ws' := fun _ => [e_Pic a Pic_width Pic_height Pic_stride, e_ar a n cI 8 pb]) (wr := [e_Pic a Pic_width Pic_height Pic_stride, e_ar a n cI 8 pb]) (As := [.int x1, .int z4, .int z6, .int z8]) (rest := [.int (pb (x2 : Int32).toNatClampNeg)]) E hw (c_Pic_guess (l := l) (dC := dC) (dI := dI) (cI := cI) (tb := tb) (a := a) (n := n)  (x0 := x1) (x1 := z4) (x2 := z6) (x3 := z8) h) tw276 tw277 tw36 tw278 4 (by decide) ⟨Nat.le_of_ble_eq_true rfl, Nat.le_of_ble_eq_true rfl⟩ ⟨Nat.le_of_ble_eq_true rfl, Nat.le_of_ble_eq_true rfl⟩ ⟨rfl, rfl⟩ [] [0, 1] [0, 1] rfl rfl rfl rfl (by decide) rfl (fun _ => rfl) hl.1 rfl rfl (Nat.le_of_ble_eq_true rfl) d_Pic_lessGuess_70 (fun r11 u10 H locs h hw => ?_)
      refine lv_isub hx hb d_Pic_lessGuess_73 ?_
      refine lv_sipush (v := 255) hx hb d_Pic_lessGuess_74 (by decide) ?_
      refine lv_iand hx hb d_Pic_lessGuess_77 ?_
      exact retI (out := fun u => [e_Pic a Pic_width Pic_height Pic_stride, e_ar a n cI 8 pb]) (u := ()) E hr hlk rfl hw h d_Pic_lessGuess_78
    · have h := h.2 c2
      refine lv_iconst (v := 0) hx hb d_Pic_lessGuess_19 (by decide) ?_
      exact retI (out := fun u => [e_Pic a Pic_width Pic_height Pic_stride, e_ar a n cI 8 pb]) (u := ()) E hr hlk rfl hw h d_Pic_lessGuess_20
end
section
-- PicturePacker$Rows.cost(II)I
theorem d_Rows_cost_0 : decode prog_6_method_4_code 0 = .ok (.iconst 0, 1) := by decide +kernel
theorem d_Rows_cost_1 : decode prog_6_method_4_code 1 = .ok (.istore_n 3, 1) := by decide +kernel
theorem d_Rows_cost_2 : decode prog_6_method_4_code 2 = .ok (.iconst 0, 1) := by decide +kernel
theorem d_Rows_cost_3 : decode prog_6_method_4_code 3 = .ok (.istore 4, 2) := by decide +kernel
theorem d_Rows_cost_5 : decode prog_6_method_4_code 5 = .ok (.iload 4, 2) := by decide +kernel
theorem d_Rows_cost_7 : decode prog_6_method_4_code 7 = .ok (.aload_n 0, 1) := by decide +kernel
theorem d_Rows_cost_8 : decode prog_6_method_4_code 8 = .ok (.getfield 21, 3) := by decide +kernel
theorem d_Rows_cost_11 : decode prog_6_method_4_code 11 = .ok (.if_icmp .ge 37, 3) := by decide +kernel
theorem d_Rows_cost_14 : decode prog_6_method_4_code 14 = .ok (.aload_n 0, 1) := by decide +kernel
theorem d_Rows_cost_15 : decode prog_6_method_4_code 15 = .ok (.getfield 9, 3) := by decide +kernel
theorem d_Rows_cost_18 : decode prog_6_method_4_code 18 = .ok (.iload_n 1, 1) := by decide +kernel
theorem d_Rows_cost_19 : decode prog_6_method_4_code 19 = .ok (.iload_n 2, 1) := by decide +kernel
theorem d_Rows_cost_20 : decode prog_6_method_4_code 20 = .ok (.iload 4, 2) := by decide +kernel
theorem d_Rows_cost_22 : decode prog_6_method_4_code 22 = .ok (.iadd, 1) := by decide +kernel
theorem d_Rows_cost_23 : decode prog_6_method_4_code 23 = .ok (.invokevirtual 55, 3) := by decide +kernel
theorem d_Rows_cost_26 : decode prog_6_method_4_code 26 = .ok (.istore 5, 2) := by decide +kernel
theorem d_Rows_cost_28 : decode prog_6_method_4_code 28 = .ok (.iload_n 3, 1) := by decide +kernel
theorem d_Rows_cost_29 : decode prog_6_method_4_code 29 = .ok (.iload 5, 2) := by decide +kernel
theorem d_Rows_cost_31 : decode prog_6_method_4_code 31 = .ok (.sipush 256, 3) := by decide +kernel
theorem d_Rows_cost_34 : decode prog_6_method_4_code 34 = .ok (.iload 5, 2) := by decide +kernel
theorem d_Rows_cost_36 : decode prog_6_method_4_code 36 = .ok (.isub, 1) := by decide +kernel
theorem d_Rows_cost_37 : decode prog_6_method_4_code 37 = .ok (.invokestatic 58, 3) := by decide +kernel
theorem d_Rows_cost_40 : decode prog_6_method_4_code 40 = .ok (.iadd, 1) := by decide +kernel
theorem d_Rows_cost_41 : decode prog_6_method_4_code 41 = .ok (.istore_n 3, 1) := by decide +kernel
theorem d_Rows_cost_42 : decode prog_6_method_4_code 42 = .ok (.iinc 4 1, 3) := by decide +kernel
theorem d_Rows_cost_45 : decode prog_6_method_4_code 45 = .ok (.goto (-40), 3) := by decide +kernel
theorem d_Rows_cost_48 : decode prog_6_method_4_code 48 = .ok (.iload_n 3, 1) := by decide +kernel
theorem d_Rows_cost_49 : decode prog_6_method_4_code 49 = .ok (.ireturn, 1) := by decide +kernel
abbrev y_Rows_cost : MethodName := ⟨"PicturePacker$Rows", "cost", "(II)I"⟩
def wp_Rows_cost_5 (n : Nat → Nat) (Pic_stride : Int32) (Rows_rowLength : Int32) (pb : Nat → Int32) (x1 : Int32) (x2 : Int32) (post : Int32 → Unit → Prop) : Nat → Int32 → Int32 → Prop
  | 0 => fun _ _ => False
  | N + 1 => fun y3 y4 => ((Rows_rowLength : Int32) ≤ y4 → (post y3 ())) ∧ (¬ ((Rows_rowLength : Int32) ≤ y4) → (wp_Pic_lessGuess n Pic_stride pb x1 (x2 + y4) (fun r3 _ => ∀ z4 : Int32, z4 = (y3 + (if (256 - r3 : Int32) < r3 then 256 - r3 else r3)) → (∀ z5 : Int32, z5 = (y4 + 1) → (wp_Rows_cost_5 n Pic_stride Rows_rowLength pb x1 x2 post N z4 z5)))))
def wp_Rows_cost (n : Nat → Nat) (Pic_stride : Int32) (Rows_rowLength : Int32) (pb : Nat → Int32) (x1 : Int32) (x2 : Int32) (post : Int32 → Unit → Prop) : Prop := ∃ N6 : Nat, wp_Rows_cost_5 n Pic_stride Rows_rowLength pb x1 x2 post N6 0 0
set_option maxHeartbeats 2000000 in
set_option maxRecDepth 20000 in
theorem s_Rows_cost_5 {l : Launch} {dC : Nat → ClassId} {dI : Nat → Nat → Nat} {cI : ClassId} {tb a n : Nat → Nat} {p : Program} {e : Env} {s : State} {m : MethodId} {args : Array Value} {below : List Frame} {meth : Method} {c : Code} {A : Nat → Prop} (E : CallFix p m c prog_6_method_4_code 6 s args TBL "PicturePacker$Rows") (hr : meth.sig.returnType = some .int) (hlk : meth.locks = false) {Pic_width : Int32} {Pic_height : Int32} {Pic_stride : Int32} {Rows_rowLength : Int32} {pb : Nat → Int32} {x1 : Int32} {x2 : Int32} {post : Int32 → Unit → Prop} : ∀ (N : Nat) (y3 : Int32) (y4 : Int32) (H : Heap) (locs : List Loc) (ls : Array Slot), Wl classes dC dI cI tb A s H locs [e_Pic a Pic_width Pic_height Pic_stride, e_Rows a Rows_rowLength, e_ar a n cI 8 pb] → lv_has ls 6 [(0, .ref (a 2)), (1, .int x1), (2, .int x2), (3, .int y3), (4, .int y4)] → wp_Rows_cost_5 n Pic_stride Rows_rowLength pb x1 x2 post N y3 y4 → W p l e ({ frames := 4, cells := 0, slots := 0, locals := 95 }) s m args below meth c H locs 0 0 (MQ below (va_Qi post (fun u => End0 classes dC dI cI A [e_Pic a Pic_width Pic_height Pic_stride, e_Rows a Rows_rowLength, e_ar a n cI 8 pb]) A) args s 0 0 A) (F0 m 5 ls []) := by
  obtain ⟨hx, hb, hml, hown, hts⟩ := id E
  intro N
  induction N with
  | zero =>
    intro _ _ H locs ls hw hl h
    exact absurd h id
  | succ N ih =>
    intro y3 y4 H locs ls hw hl h
    unfold wp_Rows_cost_5 at h
    refine lv_iload hx hb d_Rows_cost_5 (lv_at hl 4 rfl) ?_
    refine lv_aload_n hx hb d_Rows_cost_7 rfl (lv_at hl 0 rfl) ?_
    refine kget (v := .int Rows_rowLength) (T := F_Rows) E hw in_Rows rfl 1 3 rfl (by decide) tw100 rfl d_Rows_cost_8 ?_
    refine lv_icmp_ge (tgt := 48) hx hb d_Rows_cost_11 (by decide) (fun c1 => ?_) (fun c1 => ?_)
    · have h := h.1 c1
      refine lv_iload_n hx hb d_Rows_cost_48 rfl (lv_at hl 3 rfl) ?_
      exact retI (out := fun u => [e_Pic a Pic_width Pic_height Pic_stride, e_Rows a Rows_rowLength, e_ar a n cI 8 pb]) (u := ()) E hr hlk rfl hw h d_Rows_cost_49
    · have h := h.2 c1
      refine lv_aload_n hx hb d_Rows_cost_14 rfl (lv_at hl 0 rfl) ?_
      refine kget (v := .ref (a 1)) (T := F_Rows) E hw in_Rows rfl 1 2 rfl (by decide) tw99 rfl d_Rows_cost_15 ?_
      refine lv_iload_n hx hb d_Rows_cost_18 rfl (lv_at hl 1 rfl) ?_
      refine lv_iload_n hx hb d_Rows_cost_19 rfl (lv_at hl 2 rfl) ?_
      refine lv_iload hx hb d_Rows_cost_20 (lv_at hl 4 rfl) ?_
      refine lv_iadd hx hb d_Rows_cost_22 ?_
      refine kVi (y := y_Pic_lessGuess) (ws' := fun _ => [e_Pic a Pic_width Pic_height Pic_stride, e_Rows a Rows_rowLength, e_ar a n cI 8 pb]) (wr := [e_Rows a Rows_rowLength]) (As := [.int x1, .int (x2 + y4)]) (rest := []) E hw (c_Pic_lessGuess (l := l) (dC := dC) (dI := dI) (cI := cI) (tb := tb) (a := a) (n := n) (Pic_width := Pic_width) (Pic_height := Pic_height) (Pic_stride := Pic_stride) (pb := pb) (x1 := x1) (x2 := x2 + y4) h) tw272 tw273 tw274 tw36 tw275 2 (by decide) ⟨Nat.le_of_ble_eq_true rfl, Nat.le_of_ble_eq_true rfl⟩ ⟨Nat.le_of_ble_eq_true rfl, Nat.le_of_ble_eq_true rfl⟩ ⟨rfl, rfl⟩ rfl rfl 0 rfl [0, 2] [1] [1, 0, 2] rfl rfl rfl rfl (by decide) rfl (fun _ => rfl) hl.1 rfl rfl (Nat.le_of_ble_eq_true rfl) d_Rows_cost_23 (fun r3 u2 H locs h hw => ?_)
      refine lv_istore (lv' := [(5, .int r3), (0, .ref (a 2)), (1, .int x1), (2, .int x2), (3, .int y3), (4, .int y4)]) hx hb d_Rows_cost_26 hl (by decide) rfl (fun ls hl => ?_)
      refine lv_iload_n hx hb d_Rows_cost_28 rfl (lv_at hl 4 rfl) ?_
      refine lv_iload hx hb d_Rows_cost_29 (lv_at hl 0 rfl) ?_
      refine lv_sipush (v := 256) hx hb d_Rows_cost_31 (by decide) ?_
      refine lv_iload hx hb d_Rows_cost_34 (lv_at hl 0 rfl) ?_
      refine lv_isub hx hb d_Rows_cost_36 ?_
      refine kmin E hl.1 tw285 tw59 tw37 tw60 (Nat.le_of_ble_eq_true rfl) (Nat.le_of_ble_eq_true rfl) (Nat.le_of_ble_eq_true rfl) (Nat.le_of_ble_eq_true rfl) d_Rows_cost_37 ?_
      refine lv_iadd hx hb d_Rows_cost_40 ?_
      refine lv_topi (fun z4 ez4 => ?_)
      have h := h z4 ez4
      refine lv_istore_n (lv' := [(3, .int z4), (5, .int r3), (0, .ref (a 2)), (1, .int x1), (2, .int x2), (4, .int y4)]) hx hb d_Rows_cost_41 rfl hl (by decide) rfl (fun ls hl => ?_)
      obtain ⟨z5, ez5⟩ : ∃ z : Int32, z = y4 + 1 := ⟨_, rfl⟩
      have h := h z5 ez5
      refine lv_iinc (v := z5) (lv' := [(4, .int z5), (3, .int z4), (5, .int r3), (0, .ref (a 2)), (1, .int x1), (2, .int x2)]) hx hb d_Rows_cost_42 hl (k := 5) rfl (by rw [ez5]; exact congrArg (y4 + ·) (by decide)) (by decide) rfl (fun ls hl => ?_)
      refine lv_goto (tgt := 5) hx hb d_Rows_cost_45 (by decide) ?_
      exact ih z4 z5 _ _ ls hw (lv_sub hl [3, 4, 5, 1, 0] rfl) h
set_option maxHeartbeats 2000000 in
set_option maxRecDepth 20000 in
theorem c_Rows_cost {l : Launch} {dC : Nat → ClassId} {dI : Nat → Nat → Nat} {cI : ClassId} {tb a n : Nat → Nat} {Pic_width : Int32} {Pic_height : Int32} {Pic_stride : Int32} {Rows_rowLength : Int32} {pb : Nat → Int32} {x1 : Int32} {x2 : Int32} {post : Int32 → Unit → Prop} (h : wp_Rows_cost n Pic_stride Rows_rowLength pb x1 x2 post) : CtI classes dC dI cI tb l y_Rows_cost prog_6_method_4_code 6 .int ({ frames := 4, cells := 0, slots := 0, locals := 95 }) [.ref (a 2), .int x1, .int x2] [e_Pic a Pic_width Pic_height Pic_stride, e_Rows a Rows_rowLength, e_ar a n cI 8 pb] (Unit) (fun _ => [e_Pic a Pic_width Pic_height Pic_stride, e_Rows a Rows_rowLength, e_ar a n cI 8 pb]) post := by
  refine startI (by decide) (Nat.le_of_ble_eq_true rfl) ?_
  intro p e s m below meth c ls E hr hlk hnm hl hw
  have hl : lv_has ls 6 [(0, .ref (a 2)), (1, .int x1), (2, .int x2)] := hl
  generalize va_A [e_Pic a Pic_width Pic_height Pic_stride, e_Rows a Rows_rowLength, e_ar a n cI 8 pb] s.heap.size = A at hw ⊢
  obtain ⟨hx, hb, hml, hown, hts⟩ := id E
  unfold wp_Rows_cost at h
  refine lv_iconst (v := 0) hx hb d_Rows_cost_0 (by decide) ?_
  refine lv_istore_n (lv' := [(3, .int 0), (0, .ref (a 2)), (1, .int x1), (2, .int x2)]) hx hb d_Rows_cost_1 rfl hl (by decide) rfl (fun ls hl => ?_)
  refine lv_iconst (v := 0) hx hb d_Rows_cost_2 (by decide) ?_
  refine lv_istore (lv' := [(4, .int 0), (3, .int 0), (0, .ref (a 2)), (1, .int x1), (2, .int x2)]) hx hb d_Rows_cost_3 hl (by decide) rfl (fun ls hl => ?_)
  obtain ⟨N6, h⟩ := h
  exact s_Rows_cost_5 (a := a) (n := n) (tb := tb) E hr hlk  N6 0 0 _ _ ls hw (lv_sub hl [2, 3, 4, 1, 0] rfl) h
-- PicturePacker$Rows.bestFilter(I)I
theorem d_Rows_bestFilter_0 : decode prog_6_method_3_code 0 = .ok (.iconst 0, 1) := by decide +kernel
theorem d_Rows_bestFilter_1 : decode prog_6_method_3_code 1 = .ok (.istore_n 2, 1) := by decide +kernel
theorem d_Rows_bestFilter_2 : decode prog_6_method_3_code 2 = .ok (.aload_n 0, 1) := by decide +kernel
theorem d_Rows_bestFilter_3 : decode prog_6_method_3_code 3 = .ok (.iconst 0, 1) := by decide +kernel
theorem d_Rows_bestFilter_4 : decode prog_6_method_3_code 4 = .ok (.iload_n 1, 1) := by decide +kernel
theorem d_Rows_bestFilter_5 : decode prog_6_method_3_code 5 = .ok (.invokevirtual 52, 3) := by decide +kernel
theorem d_Rows_bestFilter_8 : decode prog_6_method_3_code 8 = .ok (.istore_n 3, 1) := by decide +kernel
theorem d_Rows_bestFilter_9 : decode prog_6_method_3_code 9 = .ok (.iconst 1, 1) := by decide +kernel
theorem d_Rows_bestFilter_10 : decode prog_6_method_3_code 10 = .ok (.istore 4, 2) := by decide +kernel
theorem d_Rows_bestFilter_12 : decode prog_6_method_3_code 12 = .ok (.iload 4, 2) := by decide +kernel
theorem d_Rows_bestFilter_14 : decode prog_6_method_3_code 14 = .ok (.iconst 5, 1) := by decide +kernel
theorem d_Rows_bestFilter_15 : decode prog_6_method_3_code 15 = .ok (.if_icmp .ge 30, 3) := by decide +kernel
theorem d_Rows_bestFilter_18 : decode prog_6_method_3_code 18 = .ok (.aload_n 0, 1) := by decide +kernel
theorem d_Rows_bestFilter_19 : decode prog_6_method_3_code 19 = .ok (.iload 4, 2) := by decide +kernel
theorem d_Rows_bestFilter_21 : decode prog_6_method_3_code 21 = .ok (.iload_n 1, 1) := by decide +kernel
theorem d_Rows_bestFilter_22 : decode prog_6_method_3_code 22 = .ok (.invokevirtual 52, 3) := by decide +kernel
theorem d_Rows_bestFilter_25 : decode prog_6_method_3_code 25 = .ok (.istore 5, 2) := by decide +kernel
theorem d_Rows_bestFilter_27 : decode prog_6_method_3_code 27 = .ok (.iload 5, 2) := by decide +kernel
theorem d_Rows_bestFilter_29 : decode prog_6_method_3_code 29 = .ok (.iload_n 3, 1) := by decide +kernel
theorem d_Rows_bestFilter_30 : decode prog_6_method_3_code 30 = .ok (.if_icmp .ge 9, 3) := by decide +kernel
theorem d_Rows_bestFilter_33 : decode prog_6_method_3_code 33 = .ok (.iload 5, 2) := by decide +kernel
theorem d_Rows_bestFilter_35 : decode prog_6_method_3_code 35 = .ok (.istore_n 3, 1) := by decide +kernel
theorem d_Rows_bestFilter_36 : decode prog_6_method_3_code 36 = .ok (.iload 4, 2) := by decide +kernel
theorem d_Rows_bestFilter_38 : decode prog_6_method_3_code 38 = .ok (.istore_n 2, 1) := by decide +kernel
theorem d_Rows_bestFilter_39 : decode prog_6_method_3_code 39 = .ok (.iinc 4 1, 3) := by decide +kernel
theorem d_Rows_bestFilter_42 : decode prog_6_method_3_code 42 = .ok (.goto (-30), 3) := by decide +kernel
theorem d_Rows_bestFilter_45 : decode prog_6_method_3_code 45 = .ok (.iload_n 2, 1) := by decide +kernel
theorem d_Rows_bestFilter_46 : decode prog_6_method_3_code 46 = .ok (.ireturn, 1) := by decide +kernel
abbrev y_Rows_bestFilter : MethodName := ⟨"PicturePacker$Rows", "bestFilter", "(I)I"⟩
def wp_Rows_bestFilter_12 (n : Nat → Nat) (Pic_stride : Int32) (Rows_rowLength : Int32) (pb : Nat → Int32) (x1 : Int32) (post : Int32 → Unit → Prop) : Nat → Int32 → Int32 → Int32 → Prop
  | 0 => fun _ _ _ => False
  | N + 1 => fun y2 y3 y4 => ((5 : Int32) ≤ y4 → (post y2 ())) ∧ (¬ ((5 : Int32) ≤ y4) → (wp_Rows_cost n Pic_stride Rows_rowLength pb y4 x1 (fun r5 _ => ((y3 : Int32) ≤ r5 → (∀ z7 : Int32, z7 = (y4 + 1) → (wp_Rows_bestFilter_12 n Pic_stride Rows_rowLength pb x1 post N y2 y3 z7))) ∧ (¬ ((y3 : Int32) ≤ r5) → (∀ z8 : Int32, z8 = (y4 + 1) → (wp_Rows_bestFilter_12 n Pic_stride Rows_rowLength pb x1 post N y4 r5 z8))))))
def wp_Rows_bestFilter (n : Nat → Nat) (Pic_stride : Int32) (Rows_rowLength : Int32) (pb : Nat → Int32) (x1 : Int32) (post : Int32 → Unit → Prop) : Prop := wp_Rows_cost n Pic_stride Rows_rowLength pb 0 x1 (fun r2 _ => ∃ N9 : Nat, wp_Rows_bestFilter_12 n Pic_stride Rows_rowLength pb x1 post N9 0 r2 1)
set_option maxHeartbeats 2000000 in
set_option maxRecDepth 20000 in
theorem s_Rows_bestFilter_12 {l : Launch} {dC : Nat → ClassId} {dI : Nat → Nat → Nat} {cI : ClassId} {tb a n : Nat → Nat} {p : Program} {e : Env} {s : State} {m : MethodId} {args : Array Value} {below : List Frame} {meth : Method} {c : Code} {A : Nat → Prop} (E : CallFix p m c prog_6_method_3_code 6 s args TBL "PicturePacker$Rows") (hr : meth.sig.returnType = some .int) (hlk : meth.locks = false) {Pic_width : Int32} {Pic_height : Int32} {Pic_stride : Int32} {Rows_rowLength : Int32} {pb : Nat → Int32} {x1 : Int32} {post : Int32 → Unit → Prop} : ∀ (N : Nat) (y2 : Int32) (y3 : Int32) (y4 : Int32) (H : Heap) (locs : List Loc) (ls : Array Slot), Wl classes dC dI cI tb A s H locs [e_Pic a Pic_width Pic_height Pic_stride, e_Rows a Rows_rowLength, e_ar a n cI 8 pb] → lv_has ls 6 [(0, .ref (a 2)), (1, .int x1), (2, .int y2), (3, .int y3), (4, .int y4)] → wp_Rows_bestFilter_12 n Pic_stride Rows_rowLength pb x1 post N y2 y3 y4 → W p l e ({ frames := 5, cells := 0, slots := 0, locals := 120 }) s m args below meth c H locs 0 0 (MQ below (va_Qi post (fun u => End0 classes dC dI cI A [e_Pic a Pic_width Pic_height Pic_stride, e_Rows a Rows_rowLength, e_ar a n cI 8 pb]) A) args s 0 0 A) (F0 m 12 ls []) := by
  obtain ⟨hx, hb, hml, hown, hts⟩ := id E
  intro N
  induction N with
  | zero =>
    intro _ _ _ H locs ls hw hl h
    exact absurd h id
  | succ N ih =>
    intro y2 y3 y4 H locs ls hw hl h
    unfold wp_Rows_bestFilter_12 at h
    refine lv_iload hx hb d_Rows_bestFilter_12 (lv_at hl 4 rfl) ?_
    refine lv_iconst (v := 5) hx hb d_Rows_bestFilter_14 (by decide) ?_
    refine lv_icmp_ge (tgt := 45) hx hb d_Rows_bestFilter_15 (by decide) (fun c3 => ?_) (fun c3 => ?_)
    · have h := h.1 c3
      refine lv_iload_n hx hb d_Rows_bestFilter_45 rfl (lv_at hl 2 rfl) ?_
      exact retI (out := fun u => [e_Pic a Pic_width Pic_height Pic_stride, e_Rows a Rows_rowLength, e_ar a n cI 8 pb]) (u := ()) E hr hlk rfl hw h d_Rows_bestFilter_46
    · have h := h.2 c3
      refine lv_aload_n hx hb d_Rows_bestFilter_18 rfl (lv_at hl 0 rfl) ?_
      refine lv_iload hx hb d_Rows_bestFilter_19 (lv_at hl 4 rfl) ?_
      refine lv_iload_n hx hb d_Rows_bestFilter_21 rfl (lv_at hl 1 rfl) ?_
      refine kVi (y := y_Rows_cost) (ws' := fun _ => [e_Pic a Pic_width Pic_height Pic_stride, e_Rows a Rows_rowLength, e_ar a n cI 8 pb]) (wr := []) (As := [.int y4, .int x1]) (rest := []) E hw (c_Rows_cost (l := l) (dC := dC) (dI := dI) (cI := cI) (tb := tb) (a := a) (n := n) (Pic_width := Pic_width) (Pic_height := Pic_height) (Pic_stride := Pic_stride) (Rows_rowLength := Rows_rowLength) (pb := pb) (x1 := y4) (x2 := x1) h) tw268 tw270 tw1 tw38 tw271 2 (by decide) ⟨Nat.le_of_ble_eq_true rfl, Nat.le_of_ble_eq_true rfl⟩ ⟨Nat.le_of_ble_eq_true rfl, Nat.le_of_ble_eq_true rfl⟩ ⟨rfl, rfl⟩ rfl rfl 1 rfl [0, 1, 2] [] [0, 1, 2] rfl rfl rfl rfl (by decide) rfl (fun _ => rfl) hl.1 rfl rfl (Nat.le_of_ble_eq_true rfl) d_Rows_bestFilter_22 (fun r5 u4 H locs h hw => ?_)
      refine lv_istore (lv' := [(5, .int r5), (0, .ref (a 2)), (1, .int x1), (2, .int y2), (3, .int y3), (4, .int y4)]) hx hb d_Rows_bestFilter_25 hl (by decide) rfl (fun ls hl => ?_)
      refine lv_iload hx hb d_Rows_bestFilter_27 (lv_at hl 0 rfl) ?_
      refine lv_iload_n hx hb d_Rows_bestFilter_29 rfl (lv_at hl 4 rfl) ?_
      refine lv_icmp_ge (tgt := 39) hx hb d_Rows_bestFilter_30 (by decide) (fun c6 => ?_) (fun c6 => ?_)
      · have h := h.1 c6
        obtain ⟨z7, ez7⟩ : ∃ z : Int32, z = y4 + 1 := ⟨_, rfl⟩
        have h := h z7 ez7
        refine lv_iinc (v := z7) (lv' := [(4, .int z7), (5, .int r5), (0, .ref (a 2)), (1, .int x1), (2, .int y2), (3, .int y3)]) hx hb d_Rows_bestFilter_39 hl (k := 5) rfl (by rw [ez7]; exact congrArg (y4 + ·) (by decide)) (by decide) rfl (fun ls hl => ?_)
        refine lv_goto (tgt := 12) hx hb d_Rows_bestFilter_42 (by decide) ?_
        exact ih y2 y3 z7 _ _ ls hw (lv_sub hl [2, 3, 4, 5, 0] rfl) h
      · have h := h.2 c6
        refine lv_iload hx hb d_Rows_bestFilter_33 (lv_at hl 0 rfl) ?_
        refine lv_istore_n (lv' := [(3, .int r5), (5, .int r5), (0, .ref (a 2)), (1, .int x1), (2, .int y2), (4, .int y4)]) hx hb d_Rows_bestFilter_35 rfl hl (by decide) rfl (fun ls hl => ?_)
        refine lv_iload hx hb d_Rows_bestFilter_36 (lv_at hl 5 rfl) ?_
        refine lv_istore_n (lv' := [(2, .int y4), (3, .int r5), (5, .int r5), (0, .ref (a 2)), (1, .int x1), (4, .int y4)]) hx hb d_Rows_bestFilter_38 rfl hl (by decide) rfl (fun ls hl => ?_)
        obtain ⟨z8, ez8⟩ : ∃ z : Int32, z = y4 + 1 := ⟨_, rfl⟩
        have h := h z8 ez8
        refine lv_iinc (v := z8) (lv' := [(4, .int z8), (2, .int y4), (3, .int r5), (5, .int r5), (0, .ref (a 2)), (1, .int x1)]) hx hb d_Rows_bestFilter_39 hl (k := 5) rfl (by rw [ez8]; exact congrArg (y4 + ·) (by decide)) (by decide) rfl (fun ls hl => ?_)
        refine lv_goto (tgt := 12) hx hb d_Rows_bestFilter_42 (by decide) ?_
        exact ih y4 r5 z8 _ _ ls hw (lv_sub hl [4, 5, 1, 2, 0] rfl) h
set_option maxHeartbeats 2000000 in
set_option maxRecDepth 20000 in
theorem c_Rows_bestFilter {l : Launch} {dC : Nat → ClassId} {dI : Nat → Nat → Nat} {cI : ClassId} {tb a n : Nat → Nat} {Pic_width : Int32} {Pic_height : Int32} {Pic_stride : Int32} {Rows_rowLength : Int32} {pb : Nat → Int32} {x1 : Int32} {post : Int32 → Unit → Prop} (h : wp_Rows_bestFilter n Pic_stride Rows_rowLength pb x1 post) : CtI classes dC dI cI tb l y_Rows_bestFilter prog_6_method_3_code 6 .int ({ frames := 5, cells := 0, slots := 0, locals := 120 }) [.ref (a 2), .int x1] [e_Pic a Pic_width Pic_height Pic_stride, e_Rows a Rows_rowLength, e_ar a n cI 8 pb] (Unit) (fun _ => [e_Pic a Pic_width Pic_height Pic_stride, e_Rows a Rows_rowLength, e_ar a n cI 8 pb]) post := by
  refine startI (by decide) (Nat.le_of_ble_eq_true rfl) ?_
  intro p e s m below meth c ls E hr hlk hnm hl hw
  have hl : lv_has ls 6 [(0, .ref (a 2)), (1, .int x1)] := hl
  generalize va_A [e_Pic a Pic_width Pic_height Pic_stride, e_Rows a Rows_rowLength, e_ar a n cI 8 pb] s.heap.size = A at hw ⊢
  obtain ⟨hx, hb, hml, hown, hts⟩ := id E
  unfold wp_Rows_bestFilter at h
  refine lv_iconst (v := 0) hx hb d_Rows_bestFilter_0 (by decide) ?_
  refine lv_istore_n (lv' := [(2, .int 0), (0, .ref (a 2)), (1, .int x1)]) hx hb d_Rows_bestFilter_1 rfl hl (by decide) rfl (fun ls hl => ?_)
  refine lv_aload_n hx hb d_Rows_bestFilter_2 rfl (lv_at hl 1 rfl) ?_
  refine lv_iconst (v := 0) hx hb d_Rows_bestFilter_3 (by decide) ?_
  refine lv_iload_n hx hb d_Rows_bestFilter_4 rfl (lv_at hl 2 rfl) ?_
  refine kVi (y := y_Rows_cost) (ws' := fun _ => [e_Pic a Pic_width Pic_height Pic_stride, e_Rows a Rows_rowLength, e_ar a n cI 8 pb]) (wr := []) (As := [.int 0, .int x1]) (rest := []) E hw (c_Rows_cost (l := l) (dC := dC) (dI := dI) (cI := cI) (tb := tb) (a := a) (n := n) (Pic_width := Pic_width) (Pic_height := Pic_height) (Pic_stride := Pic_stride) (Rows_rowLength := Rows_rowLength) (pb := pb) (x1 := 0) (x2 := x1) h) tw268 tw270 tw1 tw38 tw271 2 (by decide) ⟨Nat.le_of_ble_eq_true rfl, Nat.le_of_ble_eq_true rfl⟩ ⟨Nat.le_of_ble_eq_true rfl, Nat.le_of_ble_eq_true rfl⟩ ⟨rfl, rfl⟩ rfl rfl 1 rfl [0, 1, 2] [] [0, 1, 2] rfl rfl rfl rfl (by decide) rfl (fun _ => rfl) hl.1 rfl rfl (Nat.le_of_ble_eq_true rfl) d_Rows_bestFilter_5 (fun r2 u1 H locs h hw => ?_)
  refine lv_istore_n (lv' := [(3, .int r2), (2, .int 0), (0, .ref (a 2)), (1, .int x1)]) hx hb d_Rows_bestFilter_8 rfl hl (by decide) rfl (fun ls hl => ?_)
  refine lv_iconst (v := 1) hx hb d_Rows_bestFilter_9 (by decide) ?_
  refine lv_istore (lv' := [(4, .int 1), (3, .int r2), (2, .int 0), (0, .ref (a 2)), (1, .int x1)]) hx hb d_Rows_bestFilter_10 hl (by decide) rfl (fun ls hl => ?_)
  obtain ⟨N9, h⟩ := h
  exact s_Rows_bestFilter_12 (a := a) (n := n) (tb := tb) E hr hlk  N9 0 r2 1 _ _ ls hw (lv_sub hl [3, 4, 2, 1, 0] rfl) h
-- PicturePacker$Rows.lay(III)V
theorem d_Rows_lay_0 : decode prog_6_method_5_code 0 = .ok (.iload_n 1, 1) := by decide +kernel
theorem d_Rows_lay_1 : decode prog_6_method_5_code 1 = .ok (.aload_n 0, 1) := by decide +kernel
theorem d_Rows_lay_2 : decode prog_6_method_5_code 2 = .ok (.getfield 21, 3) := by decide +kernel
theorem d_Rows_lay_5 : decode prog_6_method_5_code 5 = .ok (.iconst 1, 1) := by decide +kernel
theorem d_Rows_lay_6 : decode prog_6_method_5_code 6 = .ok (.iadd, 1) := by decide +kernel
theorem d_Rows_lay_7 : decode prog_6_method_5_code 7 = .ok (.imul, 1) := by decide +kernel
theorem d_Rows_lay_8 : decode prog_6_method_5_code 8 = .ok (.istore 4, 2) := by decide +kernel
theorem d_Rows_lay_10 : decode prog_6_method_5_code 10 = .ok (.iload 4, 2) := by decide +kernel
theorem d_Rows_lay_12 : decode prog_6_method_5_code 12 = .ok (.ifCond .lt 18, 3) := by decide +kernel
theorem d_Rows_lay_15 : decode prog_6_method_5_code 15 = .ok (.iload 4, 2) := by decide +kernel
theorem d_Rows_lay_17 : decode prog_6_method_5_code 17 = .ok (.aload_n 0, 1) := by decide +kernel
theorem d_Rows_lay_18 : decode prog_6_method_5_code 18 = .ok (.getfield 21, 3) := by decide +kernel
theorem d_Rows_lay_21 : decode prog_6_method_5_code 21 = .ok (.iadd, 1) := by decide +kernel
theorem d_Rows_lay_22 : decode prog_6_method_5_code 22 = .ok (.aload_n 0, 1) := by decide +kernel
theorem d_Rows_lay_23 : decode prog_6_method_5_code 23 = .ok (.getfield 27, 3) := by decide +kernel
theorem d_Rows_lay_26 : decode prog_6_method_5_code 26 = .ok (.arraylength, 1) := by decide +kernel
theorem d_Rows_lay_27 : decode prog_6_method_5_code 27 = .ok (.if_icmp .lt 4, 3) := by decide +kernel
theorem d_Rows_lay_30 : decode prog_6_method_5_code 30 = .ok (.return_, 1) := by decide +kernel
theorem d_Rows_lay_31 : decode prog_6_method_5_code 31 = .ok (.aload_n 0, 1) := by decide +kernel
theorem d_Rows_lay_32 : decode prog_6_method_5_code 32 = .ok (.getfield 27, 3) := by decide +kernel
theorem d_Rows_lay_35 : decode prog_6_method_5_code 35 = .ok (.iload 4, 2) := by decide +kernel
theorem d_Rows_lay_37 : decode prog_6_method_5_code 37 = .ok (.iload_n 2, 1) := by decide +kernel
theorem d_Rows_lay_38 : decode prog_6_method_5_code 38 = .ok (.iastore, 1) := by decide +kernel
theorem d_Rows_lay_39 : decode prog_6_method_5_code 39 = .ok (.iconst 0, 1) := by decide +kernel
theorem d_Rows_lay_40 : decode prog_6_method_5_code 40 = .ok (.istore 5, 2) := by decide +kernel
theorem d_Rows_lay_42 : decode prog_6_method_5_code 42 = .ok (.iload 5, 2) := by decide +kernel
theorem d_Rows_lay_44 : decode prog_6_method_5_code 44 = .ok (.aload_n 0, 1) := by decide +kernel
theorem d_Rows_lay_45 : decode prog_6_method_5_code 45 = .ok (.getfield 21, 3) := by decide +kernel
theorem d_Rows_lay_48 : decode prog_6_method_5_code 48 = .ok (.if_icmp .ge 33, 3) := by decide +kernel
theorem d_Rows_lay_51 : decode prog_6_method_5_code 51 = .ok (.aload_n 0, 1) := by decide +kernel
theorem d_Rows_lay_52 : decode prog_6_method_5_code 52 = .ok (.getfield 27, 3) := by decide +kernel
theorem d_Rows_lay_55 : decode prog_6_method_5_code 55 = .ok (.iload 4, 2) := by decide +kernel
theorem d_Rows_lay_57 : decode prog_6_method_5_code 57 = .ok (.iconst 1, 1) := by decide +kernel
theorem d_Rows_lay_58 : decode prog_6_method_5_code 58 = .ok (.iadd, 1) := by decide +kernel
theorem d_Rows_lay_59 : decode prog_6_method_5_code 59 = .ok (.iload 5, 2) := by decide +kernel
theorem d_Rows_lay_61 : decode prog_6_method_5_code 61 = .ok (.iadd, 1) := by decide +kernel
theorem d_Rows_lay_62 : decode prog_6_method_5_code 62 = .ok (.aload_n 0, 1) := by decide +kernel
theorem d_Rows_lay_63 : decode prog_6_method_5_code 63 = .ok (.getfield 9, 3) := by decide +kernel
theorem d_Rows_lay_66 : decode prog_6_method_5_code 66 = .ok (.iload_n 2, 1) := by decide +kernel
theorem d_Rows_lay_67 : decode prog_6_method_5_code 67 = .ok (.iload_n 3, 1) := by decide +kernel
theorem d_Rows_lay_68 : decode prog_6_method_5_code 68 = .ok (.iload 5, 2) := by decide +kernel
theorem d_Rows_lay_70 : decode prog_6_method_5_code 70 = .ok (.iadd, 1) := by decide +kernel
theorem d_Rows_lay_71 : decode prog_6_method_5_code 71 = .ok (.invokevirtual 55, 3) := by decide +kernel
theorem d_Rows_lay_74 : decode prog_6_method_5_code 74 = .ok (.iastore, 1) := by decide +kernel
theorem d_Rows_lay_75 : decode prog_6_method_5_code 75 = .ok (.iinc 5 1, 3) := by decide +kernel
theorem d_Rows_lay_78 : decode prog_6_method_5_code 78 = .ok (.goto (-36), 3) := by decide +kernel
theorem d_Rows_lay_81 : decode prog_6_method_5_code 81 = .ok (.return_, 1) := by decide +kernel
abbrev y_Rows_lay : MethodName := ⟨"PicturePacker$Rows", "lay", "(III)V"⟩
def wp_Rows_lay_42 (n : Nat → Nat) (Pic_stride : Int32) (Rows_rowLength : Int32) (pb : Nat → Int32) (x1 : Int32) (x2 : Int32) (x3 : Int32) (post : ((Nat → Int32)) → Prop) : Nat → (Nat → Int32) → Int32 → Int32 → Prop
  | 0 => fun _ _ _ => False
  | N + 1 => fun rb y4 y5 => ((Rows_rowLength : Int32) ≤ y5 → (post rb)) ∧ (¬ ((Rows_rowLength : Int32) ≤ y5) → (wp_Pic_lessGuess n Pic_stride pb x2 (x3 + y5) (fun r8 _ => vp_in ((y4 + 1) + y5) (n 9) ∧ (∀ f10 : Nat → Int32, f10 = upd rb ((y4 + 1) + y5 : Int32).toNatClampNeg r8 → (∀ z11 : Int32, z11 = (y5 + 1) → (wp_Rows_lay_42 n Pic_stride Rows_rowLength pb x1 x2 x3 post N f10 y4 z11))))))
def wp_Rows_lay (n : Nat → Nat) (Pic_stride : Int32) (Rows_rowLength : Int32) (pb : Nat → Int32) (rb : Nat → Int32) (x1 : Int32) (x2 : Int32) (x3 : Int32) (post : ((Nat → Int32)) → Prop) : Prop := ∀ z1 : Int32, z1 = (x1 * (Rows_rowLength + 1)) → (((z1 : Int32) < 0 → (post rb)) ∧ (¬ ((z1 : Int32) < 0) → (((z1 + Rows_rowLength : Int32) < (nI (n 9)) → (vp_in z1 (n 9) ∧ (∀ f5 : Nat → Int32, f5 = upd rb (z1 : Int32).toNatClampNeg x2 → (∃ N12 : Nat, wp_Rows_lay_42 n Pic_stride Rows_rowLength pb x1 x2 x3 post N12 f5 z1 0)))) ∧ (¬ ((z1 + Rows_rowLength : Int32) < (nI (n 9))) → (post rb)))))
set_option maxHeartbeats 2000000 in
set_option maxRecDepth 20000 in
theorem s_Rows_lay_42 {l : Launch} {dC : Nat → ClassId} {dI : Nat → Nat → Nat} {cI : ClassId} {tb a n : Nat → Nat} {p : Program} {e : Env} {s : State} {m : MethodId} {args : Array Value} {below : List Frame} {meth : Method} {c : Code} {A : Nat → Prop} (E : CallFix p m c prog_6_method_5_code 6 s args TBL "PicturePacker$Rows") (hr : meth.sig.returnType = none) (hlk : meth.locks = false) {Pic_width : Int32} {Pic_height : Int32} {Pic_stride : Int32} {Rows_rowLength : Int32} {pb : Nat → Int32} {x1 : Int32} {x2 : Int32} {x3 : Int32} {post : ((Nat → Int32)) → Prop} : ∀ (N : Nat) (rb : Nat → Int32) (y4 : Int32) (y5 : Int32) (H : Heap) (locs : List Loc) (ls : Array Slot), Wl classes dC dI cI tb A s H locs [e_Pic a Pic_width Pic_height Pic_stride, e_Rows a Rows_rowLength, e_ar a n cI 8 pb, e_ar a n cI 9 rb] → lv_has ls 6 [(0, .ref (a 2)), (2, .int x2), (3, .int x3), (4, .int y4), (5, .int y5)] → wp_Rows_lay_42 n Pic_stride Rows_rowLength pb x1 x2 x3 post N rb y4 y5 → W p l e ({ frames := 4, cells := 0, slots := 0, locals := 95 }) s m args below meth c H locs 0 0 (MQ below (va_Qv post (fun u => End0 classes dC dI cI A [e_Pic a Pic_width Pic_height Pic_stride, e_Rows a Rows_rowLength, e_ar a n cI 8 pb, e_ar a n cI 9 u]) A) args s 0 0 A) (F0 m 42 ls []) := by
  obtain ⟨hx, hb, hml, hown, hts⟩ := id E
  intro N
  induction N with
  | zero =>
    intro _ _ _ H locs ls hw hl h
    exact absurd h id
  | succ N ih =>
    intro rb y4 y5 H locs ls hw hl h
    unfold wp_Rows_lay_42 at h
    refine lv_iload hx hb d_Rows_lay_42 (lv_at hl 4 rfl) ?_
    refine lv_aload_n hx hb d_Rows_lay_44 rfl (lv_at hl 0 rfl) ?_
    refine kget (v := .int Rows_rowLength) (T := F_Rows) E hw in_Rows rfl 1 3 rfl (by decide) tw100 rfl d_Rows_lay_45 ?_
    refine lv_icmp_ge (tgt := 81) hx hb d_Rows_lay_48 (by decide) (fun c6 => ?_) (fun c6 => ?_)
    · have h := h.1 c6
      exact retV (out := fun u => [e_Pic a Pic_width Pic_height Pic_stride, e_Rows a Rows_rowLength, e_ar a n cI 8 pb, e_ar a n cI 9 u]) (u := rb) E hr hlk hw h d_Rows_lay_81
    · have h := h.2 c6
      refine lv_aload_n hx hb d_Rows_lay_51 rfl (lv_at hl 0 rfl) ?_
      refine kget (v := .ref (a 9)) (T := F_Rows) E hw in_Rows rfl 1 0 rfl (by decide) tw95 rfl d_Rows_lay_52 ?_
      refine lv_iload hx hb d_Rows_lay_55 (lv_at hl 3 rfl) ?_
      refine lv_iconst (v := 1) hx hb d_Rows_lay_57 (by decide) ?_
      refine lv_iadd hx hb d_Rows_lay_58 ?_
      refine lv_iload hx hb d_Rows_lay_59 (lv_at hl 4 rfl) ?_
      refine lv_iadd hx hb d_Rows_lay_61 ?_
      refine lv_aload_n hx hb d_Rows_lay_62 rfl (lv_at hl 0 rfl) ?_
      refine kget (v := .ref (a 1)) (T := F_Rows) E hw in_Rows rfl 1 2 rfl (by decide) tw99 rfl d_Rows_lay_63 ?_
      refine lv_iload_n hx hb d_Rows_lay_66 rfl (lv_at hl 1 rfl) ?_
      refine lv_iload_n hx hb d_Rows_lay_67 rfl (lv_at hl 2 rfl) ?_
      refine lv_iload hx hb d_Rows_lay_68 (lv_at hl 4 rfl) ?_
      refine lv_iadd hx hb d_Rows_lay_70 ?_
      refine kVi (y := y_Pic_lessGuess) (ws' := fun _ => [e_Pic a Pic_width Pic_height Pic_stride, e_Rows a Rows_rowLength, e_ar a n cI 8 pb, e_ar a n cI 9 rb]) (wr := [e_Rows a Rows_rowLength, e_ar a n cI 9 rb]) (As := [.int x2, .int (x3 + y5)]) (rest := [.int ((y4 + 1) + y5), .ref (a 9)]) E hw (c_Pic_lessGuess (l := l) (dC := dC) (dI := dI) (cI := cI) (tb := tb) (a := a) (n := n) (Pic_width := Pic_width) (Pic_height := Pic_height) (Pic_stride := Pic_stride) (pb := pb) (x1 := x2) (x2 := x3 + y5) h) tw272 tw273 tw274 tw36 tw275 2 (by decide) ⟨Nat.le_of_ble_eq_true rfl, Nat.le_of_ble_eq_true rfl⟩ ⟨Nat.le_of_ble_eq_true rfl, Nat.le_of_ble_eq_true rfl⟩ ⟨rfl, rfl⟩ rfl rfl 0 rfl [0, 2] [1, 3] [2, 0, 3, 1] rfl rfl rfl rfl (by decide) rfl (fun _ => rfl) hl.1 rfl rfl (Nat.le_of_ble_eq_true rfl) d_Rows_lay_71 (fun r8 u7 H locs h hw => ?_)
      obtain ⟨b9, h⟩ := h
      obtain ⟨f10, ef10⟩ : ∃ z : Nat → Int32, z = upd rb ((y4 + 1) + y5 : Int32).toNatClampNeg r8 := ⟨_, rfl⟩
      have h := h f10 ef10
      refine kast (ws' := [e_Pic a Pic_width Pic_height Pic_stride, e_Rows a Rows_rowLength, e_ar a n cI 8 pb, e_ar a n cI 9 f10]) E hw 3 rfl b9 (by rw [ef10]; rfl) d_Rows_lay_74 (fun H locs hw => ?_)
      obtain ⟨z11, ez11⟩ : ∃ z : Int32, z = y5 + 1 := ⟨_, rfl⟩
      have h := h z11 ez11
      refine lv_iinc (v := z11) (lv' := [(5, .int z11), (0, .ref (a 2)), (2, .int x2), (3, .int x3), (4, .int y4)]) hx hb d_Rows_lay_75 hl (k := 4) rfl (by rw [ez11]; exact congrArg (y5 + ·) (by decide)) (by decide) rfl (fun ls hl => ?_)
      refine lv_goto (tgt := 42) hx hb d_Rows_lay_78 (by decide) ?_
      exact ih f10 y4 z11 _ _ ls hw (lv_sub hl [1, 2, 3, 4, 0] rfl) h
set_option maxHeartbeats 2000000 in
set_option maxRecDepth 20000 in
theorem c_Rows_lay {l : Launch} {dC : Nat → ClassId} {dI : Nat → Nat → Nat} {cI : ClassId} {tb a n : Nat → Nat} {Pic_width : Int32} {Pic_height : Int32} {Pic_stride : Int32} {Rows_rowLength : Int32} {pb : Nat → Int32} {rb : Nat → Int32} {x1 : Int32} {x2 : Int32} {x3 : Int32} {post : ((Nat → Int32)) → Prop} (h : wp_Rows_lay n Pic_stride Rows_rowLength pb rb x1 x2 x3 post) : CtV classes dC dI cI tb l y_Rows_lay prog_6_method_5_code 6 ({ frames := 4, cells := 0, slots := 0, locals := 95 }) [.ref (a 2), .int x1, .int x2, .int x3] [e_Pic a Pic_width Pic_height Pic_stride, e_Rows a Rows_rowLength, e_ar a n cI 8 pb, e_ar a n cI 9 rb] ((Nat → Int32)) (fun u => [e_Pic a Pic_width Pic_height Pic_stride, e_Rows a Rows_rowLength, e_ar a n cI 8 pb, e_ar a n cI 9 u]) post := by
  refine startV (by decide) (Nat.le_of_ble_eq_true rfl) ?_
  intro p e s m below meth c ls E hr hlk hnm hl hw
  have hl : lv_has ls 6 [(0, .ref (a 2)), (1, .int x1), (2, .int x2), (3, .int x3)] := hl
  generalize va_A [e_Pic a Pic_width Pic_height Pic_stride, e_Rows a Rows_rowLength, e_ar a n cI 8 pb, e_ar a n cI 9 rb] s.heap.size = A at hw ⊢
  obtain ⟨hx, hb, hml, hown, hts⟩ := id E
  unfold wp_Rows_lay at h
  refine lv_iload_n hx hb d_Rows_lay_0 rfl (lv_at hl 1 rfl) ?_
  refine lv_aload_n hx hb d_Rows_lay_1 rfl (lv_at hl 0 rfl) ?_
  refine kget (v := .int Rows_rowLength) (T := F_Rows) E hw in_Rows rfl 1 3 rfl (by decide) tw100 rfl d_Rows_lay_2 ?_
  refine lv_iconst (v := 1) hx hb d_Rows_lay_5 (by decide) ?_
  refine lv_iadd hx hb d_Rows_lay_6 ?_
  refine lv_imul hx hb d_Rows_lay_7 ?_
  refine lv_topi (fun z1 ez1 => ?_)
  have h := h z1 ez1
  refine lv_istore (lv' := [(4, .int z1), (0, .ref (a 2)), (1, .int x1), (2, .int x2), (3, .int x3)]) hx hb d_Rows_lay_8 hl (by decide) rfl (fun ls hl => ?_)
  refine lv_iload hx hb d_Rows_lay_10 (lv_at hl 0 rfl) ?_
  refine lv_if_lt (tgt := 30) hx hb d_Rows_lay_12 (by decide) (fun c2 => ?_) (fun c2 => ?_)
  · have h := h.1 c2
    exact retV (out := fun u => [e_Pic a Pic_width Pic_height Pic_stride, e_Rows a Rows_rowLength, e_ar a n cI 8 pb, e_ar a n cI 9 u]) (u := rb) E hr hlk hw h d_Rows_lay_30
  · have h := h.2 c2
    refine lv_iload hx hb d_Rows_lay_15 (lv_at hl 0 rfl) ?_
    refine lv_aload_n hx hb d_Rows_lay_17 rfl (lv_at hl 1 rfl) ?_
    refine kget (v := .int Rows_rowLength) (T := F_Rows) E hw in_Rows rfl 1 3 rfl (by decide) tw100 rfl d_Rows_lay_18 ?_
    refine lv_iadd hx hb d_Rows_lay_21 ?_
    refine lv_aload_n hx hb d_Rows_lay_22 rfl (lv_at hl 1 rfl) ?_
    refine kget (v := .ref (a 9)) (T := F_Rows) E hw in_Rows rfl 1 0 rfl (by decide) tw95 rfl d_Rows_lay_23 ?_
    refine kalen E hw 3 rfl d_Rows_lay_26 ?_
    refine lv_icmp_lt (tgt := 31) hx hb d_Rows_lay_27 (by decide) (fun c3 => ?_) (fun c3 => ?_)
    · have h := h.1 c3
      refine lv_aload_n hx hb d_Rows_lay_31 rfl (lv_at hl 1 rfl) ?_
      refine kget (v := .ref (a 9)) (T := F_Rows) E hw in_Rows rfl 1 0 rfl (by decide) tw95 rfl d_Rows_lay_32 ?_
      refine lv_iload hx hb d_Rows_lay_35 (lv_at hl 0 rfl) ?_
      refine lv_iload_n hx hb d_Rows_lay_37 rfl (lv_at hl 3 rfl) ?_
      obtain ⟨b4, h⟩ := h
      obtain ⟨f5, ef5⟩ : ∃ z : Nat → Int32, z = upd rb (z1 : Int32).toNatClampNeg x2 := ⟨_, rfl⟩
      have h := h f5 ef5
      refine kast (ws' := [e_Pic a Pic_width Pic_height Pic_stride, e_Rows a Rows_rowLength, e_ar a n cI 8 pb, e_ar a n cI 9 f5]) E hw 3 rfl b4 (by rw [ef5]; rfl) d_Rows_lay_38 (fun H locs hw => ?_)
      refine lv_iconst (v := 0) hx hb d_Rows_lay_39 (by decide) ?_
      refine lv_istore (lv' := [(5, .int 0), (4, .int z1), (0, .ref (a 2)), (1, .int x1), (2, .int x2), (3, .int x3)]) hx hb d_Rows_lay_40 hl (by decide) rfl (fun ls hl => ?_)
      obtain ⟨N12, h⟩ := h
      exact s_Rows_lay_42 (a := a) (n := n) (tb := tb) E hr hlk  N12 f5 z1 0 _ _ ls hw (lv_sub hl [2, 4, 5, 1, 0] rfl) h
    · have h := h.2 c3
      exact retV (out := fun u => [e_Pic a Pic_width Pic_height Pic_stride, e_Rows a Rows_rowLength, e_ar a n cI 8 pb, e_ar a n cI 9 u]) (u := rb) E hr hlk hw h d_Rows_lay_30
-- PicturePacker$Rows.make()V
theorem d_Rows_make_0 : decode prog_6_method_2_code 0 = .ok (.iconst 0, 1) := by decide +kernel
theorem d_Rows_make_1 : decode prog_6_method_2_code 1 = .ok (.istore_n 1, 1) := by decide +kernel
theorem d_Rows_make_2 : decode prog_6_method_2_code 2 = .ok (.iload_n 1, 1) := by decide +kernel
theorem d_Rows_make_3 : decode prog_6_method_2_code 3 = .ok (.aload_n 0, 1) := by decide +kernel
theorem d_Rows_make_4 : decode prog_6_method_2_code 4 = .ok (.getfield 31, 3) := by decide +kernel
theorem d_Rows_make_7 : decode prog_6_method_2_code 7 = .ok (.arraylength, 1) := by decide +kernel
theorem d_Rows_make_8 : decode prog_6_method_2_code 8 = .ok (.if_icmp .ge 42, 3) := by decide +kernel
theorem d_Rows_make_11 : decode prog_6_method_2_code 11 = .ok (.aload_n 0, 1) := by decide +kernel
theorem d_Rows_make_12 : decode prog_6_method_2_code 12 = .ok (.getfield 9, 3) := by decide +kernel
theorem d_Rows_make_15 : decode prog_6_method_2_code 15 = .ok (.iconst 0, 1) := by decide +kernel
theorem d_Rows_make_16 : decode prog_6_method_2_code 16 = .ok (.iload_n 1, 1) := by decide +kernel
theorem d_Rows_make_17 : decode prog_6_method_2_code 17 = .ok (.invokevirtual 40, 3) := by decide +kernel
theorem d_Rows_make_20 : decode prog_6_method_2_code 20 = .ok (.istore_n 2, 1) := by decide +kernel
theorem d_Rows_make_21 : decode prog_6_method_2_code 21 = .ok (.aload_n 0, 1) := by decide +kernel
theorem d_Rows_make_22 : decode prog_6_method_2_code 22 = .ok (.getfield 31, 3) := by decide +kernel
theorem d_Rows_make_25 : decode prog_6_method_2_code 25 = .ok (.iload_n 1, 1) := by decide +kernel
theorem d_Rows_make_26 : decode prog_6_method_2_code 26 = .ok (.aload_n 0, 1) := by decide +kernel
theorem d_Rows_make_27 : decode prog_6_method_2_code 27 = .ok (.iload_n 2, 1) := by decide +kernel
theorem d_Rows_make_28 : decode prog_6_method_2_code 28 = .ok (.invokevirtual 44, 3) := by decide +kernel
theorem d_Rows_make_31 : decode prog_6_method_2_code 31 = .ok (.iastore, 1) := by decide +kernel
theorem d_Rows_make_32 : decode prog_6_method_2_code 32 = .ok (.aload_n 0, 1) := by decide +kernel
theorem d_Rows_make_33 : decode prog_6_method_2_code 33 = .ok (.iload_n 1, 1) := by decide +kernel
theorem d_Rows_make_34 : decode prog_6_method_2_code 34 = .ok (.aload_n 0, 1) := by decide +kernel
theorem d_Rows_make_35 : decode prog_6_method_2_code 35 = .ok (.getfield 31, 3) := by decide +kernel
theorem d_Rows_make_38 : decode prog_6_method_2_code 38 = .ok (.iload_n 1, 1) := by decide +kernel
theorem d_Rows_make_39 : decode prog_6_method_2_code 39 = .ok (.iaload, 1) := by decide +kernel
theorem d_Rows_make_40 : decode prog_6_method_2_code 40 = .ok (.iload_n 2, 1) := by decide +kernel
theorem d_Rows_make_41 : decode prog_6_method_2_code 41 = .ok (.invokevirtual 48, 3) := by decide +kernel
theorem d_Rows_make_44 : decode prog_6_method_2_code 44 = .ok (.iinc 1 1, 3) := by decide +kernel
theorem d_Rows_make_47 : decode prog_6_method_2_code 47 = .ok (.goto (-45), 3) := by decide +kernel
theorem d_Rows_make_50 : decode prog_6_method_2_code 50 = .ok (.return_, 1) := by decide +kernel
abbrev y_Rows_make : MethodName := ⟨"PicturePacker$Rows", "make", "()V"⟩
def wp_Rows_make_2 (n : Nat → Nat) (Pic_stride : Int32) (Rows_rowLength : Int32) (pb : Nat → Int32) (post : (Nat → Int32) × (Nat → Int32) → Prop) : Nat → (Nat → Int32) → (Nat → Int32) → Int32 → Prop
  | 0 => fun _ _ _ => False
  | N + 1 => fun rb fl y1 => ((nI (n 10) : Int32) ≤ y1 → (post (rb, fl))) ∧ (¬ ((nI (n 10) : Int32) ≤ y1) → (wp_Pic_placeOf n Pic_stride 0 y1 (fun r3 _ => wp_Rows_bestFilter n Pic_stride Rows_rowLength pb r3 (fun r5 _ => vp_in y1 (n 10) ∧ (∀ f7 : Nat → Int32, f7 = upd fl (y1 : Int32).toNatClampNeg r5 → (vp_in y1 (n 10) ∧ (wp_Rows_lay n Pic_stride Rows_rowLength pb rb y1 (f7 (y1 : Int32).toNatClampNeg) r3 (fun u9 => ∀ z11 : Int32, z11 = (y1 + 1) → (wp_Rows_make_2 n Pic_stride Rows_rowLength pb post N u9 f7 z11)))))))))
def wp_Rows_make (n : Nat → Nat) (Pic_stride : Int32) (Rows_rowLength : Int32) (pb : Nat → Int32) (rb : Nat → Int32) (fl : Nat → Int32) (post : (Nat → Int32) × (Nat → Int32) → Prop) : Prop := ∃ N12 : Nat, wp_Rows_make_2 n Pic_stride Rows_rowLength pb post N12 rb fl 0
set_option maxHeartbeats 2000000 in
set_option maxRecDepth 20000 in
theorem s_Rows_make_2 {l : Launch} {dC : Nat → ClassId} {dI : Nat → Nat → Nat} {cI : ClassId} {tb a n : Nat → Nat} {p : Program} {e : Env} {s : State} {m : MethodId} {args : Array Value} {below : List Frame} {meth : Method} {c : Code} {A : Nat → Prop} (E : CallFix p m c prog_6_method_2_code 3 s args TBL "PicturePacker$Rows") (hr : meth.sig.returnType = none) (hlk : meth.locks = false) {Pic_width : Int32} {Pic_height : Int32} {Pic_stride : Int32} {Rows_rowLength : Int32} {pb : Nat → Int32} {post : (Nat → Int32) × (Nat → Int32) → Prop} : ∀ (N : Nat) (rb : Nat → Int32) (fl : Nat → Int32) (y1 : Int32) (H : Heap) (locs : List Loc) (ls : Array Slot), Wl classes dC dI cI tb A s H locs [e_Pic a Pic_width Pic_height Pic_stride, e_Rows a Rows_rowLength, e_ar a n cI 8 pb, e_ar a n cI 9 rb, e_ar a n cI 10 fl] → lv_has ls 3 [(0, .ref (a 2)), (1, .int y1)] → wp_Rows_make_2 n Pic_stride Rows_rowLength pb post N rb fl y1 → W p l e ({ frames := 6, cells := 0, slots := 0, locals := 145 }) s m args below meth c H locs 0 0 (MQ below (va_Qv post (fun u => End0 classes dC dI cI A [e_Pic a Pic_width Pic_height Pic_stride, e_Rows a Rows_rowLength, e_ar a n cI 8 pb, e_ar a n cI 9 u.1, e_ar a n cI 10 u.2]) A) args s 0 0 A) (F0 m 2 ls []) := by
  obtain ⟨hx, hb, hml, hown, hts⟩ := id E
  intro N
  induction N with
  | zero =>
    intro _ _ _ H locs ls hw hl h
    exact absurd h id
  | succ N ih =>
    intro rb fl y1 H locs ls hw hl h
    unfold wp_Rows_make_2 at h
    refine lv_iload_n hx hb d_Rows_make_2 rfl (lv_at hl 1 rfl) ?_
    refine lv_aload_n hx hb d_Rows_make_3 rfl (lv_at hl 0 rfl) ?_
    refine kget (v := .ref (a 10)) (T := F_Rows) E hw in_Rows rfl 1 1 rfl (by decide) tw97 rfl d_Rows_make_4 ?_
    refine kalen E hw 4 rfl d_Rows_make_7 ?_
    refine lv_icmp_ge (tgt := 50) hx hb d_Rows_make_8 (by decide) (fun c1 => ?_) (fun c1 => ?_)
    · have h := h.1 c1
      exact retV (out := fun u => [e_Pic a Pic_width Pic_height Pic_stride, e_Rows a Rows_rowLength, e_ar a n cI 8 pb, e_ar a n cI 9 u.1, e_ar a n cI 10 u.2]) (u := (rb, fl)) E hr hlk hw h d_Rows_make_50
    · have h := h.2 c1
      refine lv_aload_n hx hb d_Rows_make_11 rfl (lv_at hl 0 rfl) ?_
      refine kget (v := .ref (a 1)) (T := F_Rows) E hw in_Rows rfl 1 2 rfl (by decide) tw99 rfl d_Rows_make_12 ?_
      refine lv_iconst (v := 0) hx hb d_Rows_make_15 (by decide) ?_
      refine lv_iload_n hx hb d_Rows_make_16 rfl (lv_at hl 1 rfl) ?_
      refine kVi (y := y_Pic_placeOf) (ws' := fun _ => [e_Pic a Pic_width Pic_height Pic_stride, e_Rows a Rows_rowLength, e_ar a n cI 8 pb, e_ar a n cI 9 rb, e_ar a n cI 10 fl]) (wr := [e_Rows a Rows_rowLength, e_ar a n cI 8 pb, e_ar a n cI 9 rb, e_ar a n cI 10 fl]) (As := [.int 0, .int y1]) (rest := []) E hw (c_Pic_placeOf (l := l) (dC := dC) (dI := dI) (cI := cI) (tb := tb) (a := a) (n := n) (Pic_width := Pic_width) (Pic_height := Pic_height) (Pic_stride := Pic_stride) (x1 := 0) (x2 := y1) h) tw263 tw240 tw241 tw36 tw242 2 (by decide) ⟨Nat.le_of_ble_eq_true rfl, Nat.le_of_ble_eq_true rfl⟩ ⟨Nat.le_of_ble_eq_true rfl, Nat.le_of_ble_eq_true rfl⟩ ⟨rfl, rfl⟩ rfl rfl 0 rfl [0] [1, 2, 3, 4] [4, 0, 1, 2, 3] rfl rfl rfl rfl (by decide) rfl (fun _ => rfl) hl.1 rfl rfl (Nat.le_of_ble_eq_true rfl) d_Rows_make_17 (fun r3 u2 H locs h hw => ?_)
      refine lv_istore_n (lv' := [(2, .int r3), (0, .ref (a 2)), (1, .int y1)]) hx hb d_Rows_make_20 rfl hl (by decide) rfl (fun ls hl => ?_)
      refine lv_aload_n hx hb d_Rows_make_21 rfl (lv_at hl 1 rfl) ?_
      refine kget (v := .ref (a 10)) (T := F_Rows) E hw in_Rows rfl 1 1 rfl (by decide) tw97 rfl d_Rows_make_22 ?_
      refine lv_iload_n hx hb d_Rows_make_25 rfl (lv_at hl 2 rfl) ?_
      refine lv_aload_n hx hb d_Rows_make_26 rfl (lv_at hl 1 rfl) ?_
      refine lv_iload_n hx hb d_Rows_make_27 rfl (lv_at hl 0 rfl) ?_
      refine kVi (y := y_Rows_bestFilter) (ws' := fun _ => [e_Pic a Pic_width Pic_height Pic_stride, e_Rows a Rows_rowLength, e_ar a n cI 8 pb, e_ar a n cI 9 rb, e_ar a n cI 10 fl]) (wr := [e_ar a n cI 9 rb, e_ar a n cI 10 fl]) (As := [.int r3]) (rest := [.int y1, .ref (a 10)]) E hw (c_Rows_bestFilter (l := l) (dC := dC) (dI := dI) (cI := cI) (tb := tb) (a := a) (n := n) (Pic_width := Pic_width) (Pic_height := Pic_height) (Pic_stride := Pic_stride) (Rows_rowLength := Rows_rowLength) (pb := pb) (x1 := r3) h) tw264 tw266 tw0 tw38 tw267 1 (by decide) ⟨Nat.le_of_ble_eq_true rfl, Nat.le_of_ble_eq_true rfl⟩ ⟨Nat.le_of_ble_eq_true rfl, Nat.le_of_ble_eq_true rfl⟩ ⟨rfl, rfl⟩ rfl rfl 1 rfl [0, 1, 2] [3, 4] [2, 3, 4, 0, 1] rfl rfl rfl rfl (by decide) rfl (fun _ => rfl) hl.1 rfl rfl (Nat.le_of_ble_eq_true rfl) d_Rows_make_28 (fun r5 u4 H locs h hw => ?_)
      obtain ⟨b6, h⟩ := h
      obtain ⟨f7, ef7⟩ : ∃ z : Nat → Int32, z = upd fl (y1 : Int32).toNatClampNeg r5 := ⟨_, rfl⟩
      have h := h f7 ef7
      refine kast (ws' := [e_Pic a Pic_width Pic_height Pic_stride, e_Rows a Rows_rowLength, e_ar a n cI 8 pb, e_ar a n cI 9 rb, e_ar a n cI 10 f7]) E hw 4 rfl b6 (by rw [ef7]; rfl) d_Rows_make_31 (fun H locs hw => ?_)
      refine lv_aload_n hx hb d_Rows_make_32 rfl (lv_at hl 1 rfl) ?_
      refine lv_iload_n hx hb d_Rows_make_33 rfl (lv_at hl 2 rfl) ?_
      refine lv_aload_n hx hb d_Rows_make_34 rfl (lv_at hl 1 rfl) ?_
      refine kget (v := .ref (a 10)) (T := F_Rows) E hw in_Rows rfl 1 1 rfl (by decide) tw97 rfl d_Rows_make_35 ?_
      refine lv_iload_n hx hb d_Rows_make_38 rfl (lv_at hl 2 rfl) ?_
      obtain ⟨b8, h⟩ := h
      refine kald E hw 4 rfl b8 d_Rows_make_39 ?_
      refine lv_iload_n hx hb d_Rows_make_40 rfl (lv_at hl 0 rfl) ?_
      refine kVv (y := y_Rows_lay) (ws' := fun u9 => [e_Pic a Pic_width Pic_height Pic_stride, e_Rows a Rows_rowLength, e_ar a n cI 8 pb, e_ar a n cI 9 u9, e_ar a n cI 10 f7]) (wr := [e_ar a n cI 10 f7]) (As := [.int y1, .int (f7 (y1 : Int32).toNatClampNeg), .int r3]) (rest := []) E hw (c_Rows_lay (l := l) (dC := dC) (dI := dI) (cI := cI) (tb := tb) (a := a) (n := n) (Pic_width := Pic_width) (Pic_height := Pic_height) (Pic_stride := Pic_stride) (Rows_rowLength := Rows_rowLength) (pb := pb) (rb := rb) (x1 := y1) (x2 := f7 (y1 : Int32).toNatClampNeg) (x3 := r3) h) tw286 tw288 tw2 tw38 tw289 3 (by decide) ⟨Nat.le_of_ble_eq_true rfl, Nat.le_of_ble_eq_true rfl⟩ ⟨Nat.le_of_ble_eq_true rfl, Nat.le_of_ble_eq_true rfl⟩ ⟨rfl, rfl⟩ rfl rfl 1 rfl [0, 1, 2, 3] [4] [1, 2, 3, 4, 0] rfl rfl rfl rfl (by decide) rfl (fun _ => rfl) hl.1 rfl rfl (Nat.le_of_ble_eq_true rfl) d_Rows_make_41 (fun u9 H locs h hw => ?_)
      obtain ⟨z11, ez11⟩ : ∃ z : Int32, z = y1 + 1 := ⟨_, rfl⟩
      have h := h z11 ez11
      refine lv_iinc (v := z11) (lv' := [(1, .int z11), (2, .int r3), (0, .ref (a 2))]) hx hb d_Rows_make_44 hl (k := 2) rfl (by rw [ez11]; exact congrArg (y1 + ·) (by decide)) (by decide) rfl (fun ls hl => ?_)
      refine lv_goto (tgt := 2) hx hb d_Rows_make_47 (by decide) ?_
      exact ih u9 f7 z11 _ _ ls hw (lv_sub hl [2, 0] rfl) h
set_option maxHeartbeats 2000000 in
set_option maxRecDepth 20000 in
theorem c_Rows_make {l : Launch} {dC : Nat → ClassId} {dI : Nat → Nat → Nat} {cI : ClassId} {tb a n : Nat → Nat} {Pic_width : Int32} {Pic_height : Int32} {Pic_stride : Int32} {Rows_rowLength : Int32} {pb : Nat → Int32} {rb : Nat → Int32} {fl : Nat → Int32} {post : (Nat → Int32) × (Nat → Int32) → Prop} (h : wp_Rows_make n Pic_stride Rows_rowLength pb rb fl post) : CtV classes dC dI cI tb l y_Rows_make prog_6_method_2_code 3 ({ frames := 6, cells := 0, slots := 0, locals := 145 }) [.ref (a 2)] [e_Pic a Pic_width Pic_height Pic_stride, e_Rows a Rows_rowLength, e_ar a n cI 8 pb, e_ar a n cI 9 rb, e_ar a n cI 10 fl] ((Nat → Int32) × (Nat → Int32)) (fun u => [e_Pic a Pic_width Pic_height Pic_stride, e_Rows a Rows_rowLength, e_ar a n cI 8 pb, e_ar a n cI 9 u.1, e_ar a n cI 10 u.2]) post := by
  refine startV (by decide) (Nat.le_of_ble_eq_true rfl) ?_
  intro p e s m below meth c ls E hr hlk hnm hl hw
  have hl : lv_has ls 3 [(0, .ref (a 2))] := hl
  generalize va_A [e_Pic a Pic_width Pic_height Pic_stride, e_Rows a Rows_rowLength, e_ar a n cI 8 pb, e_ar a n cI 9 rb, e_ar a n cI 10 fl] s.heap.size = A at hw ⊢
  obtain ⟨hx, hb, hml, hown, hts⟩ := id E
  unfold wp_Rows_make at h
  refine lv_iconst (v := 0) hx hb d_Rows_make_0 (by decide) ?_
  refine lv_istore_n (lv' := [(1, .int 0), (0, .ref (a 2))]) hx hb d_Rows_make_1 rfl hl (by decide) rfl (fun ls hl => ?_)
  obtain ⟨N12, h⟩ := h
  exact s_Rows_make_2 (a := a) (n := n) (tb := tb) E hr hlk  N12 rb fl 0 _ _ ls hw (lv_sub hl [1, 0] rfl) h
-- PicturePacker$Rows.sum()I
theorem d_Rows_sum_0 : decode prog_6_method_6_code 0 = .ok (.iconst 1, 1) := by decide +kernel
theorem d_Rows_sum_1 : decode prog_6_method_6_code 1 = .ok (.istore_n 1, 1) := by decide +kernel
theorem d_Rows_sum_2 : decode prog_6_method_6_code 2 = .ok (.iconst 0, 1) := by decide +kernel
theorem d_Rows_sum_3 : decode prog_6_method_6_code 3 = .ok (.istore_n 2, 1) := by decide +kernel
theorem d_Rows_sum_4 : decode prog_6_method_6_code 4 = .ok (.iconst 0, 1) := by decide +kernel
theorem d_Rows_sum_5 : decode prog_6_method_6_code 5 = .ok (.istore_n 3, 1) := by decide +kernel
theorem d_Rows_sum_6 : decode prog_6_method_6_code 6 = .ok (.iload_n 3, 1) := by decide +kernel
theorem d_Rows_sum_7 : decode prog_6_method_6_code 7 = .ok (.aload_n 0, 1) := by decide +kernel
theorem d_Rows_sum_8 : decode prog_6_method_6_code 8 = .ok (.getfield 27, 3) := by decide +kernel
theorem d_Rows_sum_11 : decode prog_6_method_6_code 11 = .ok (.arraylength, 1) := by decide +kernel
theorem d_Rows_sum_12 : decode prog_6_method_6_code 12 = .ok (.if_icmp .ge 28, 3) := by decide +kernel
theorem d_Rows_sum_15 : decode prog_6_method_6_code 15 = .ok (.iload_n 1, 1) := by decide +kernel
theorem d_Rows_sum_16 : decode prog_6_method_6_code 16 = .ok (.aload_n 0, 1) := by decide +kernel
theorem d_Rows_sum_17 : decode prog_6_method_6_code 17 = .ok (.getfield 27, 3) := by decide +kernel
theorem d_Rows_sum_20 : decode prog_6_method_6_code 20 = .ok (.iload_n 3, 1) := by decide +kernel
theorem d_Rows_sum_21 : decode prog_6_method_6_code 21 = .ok (.iaload, 1) := by decide +kernel
theorem d_Rows_sum_22 : decode prog_6_method_6_code 22 = .ok (.iadd, 1) := by decide +kernel
theorem d_Rows_sum_23 : decode prog_6_method_6_code 23 = .ok (.ldc 63, 2) := by decide +kernel
theorem d_Rows_sum_25 : decode prog_6_method_6_code 25 = .ok (.irem, 1) := by decide +kernel
theorem d_Rows_sum_26 : decode prog_6_method_6_code 26 = .ok (.istore_n 1, 1) := by decide +kernel
theorem d_Rows_sum_27 : decode prog_6_method_6_code 27 = .ok (.iload_n 2, 1) := by decide +kernel
theorem d_Rows_sum_28 : decode prog_6_method_6_code 28 = .ok (.iload_n 1, 1) := by decide +kernel
theorem d_Rows_sum_29 : decode prog_6_method_6_code 29 = .ok (.iadd, 1) := by decide +kernel
theorem d_Rows_sum_30 : decode prog_6_method_6_code 30 = .ok (.ldc 63, 2) := by decide +kernel
theorem d_Rows_sum_32 : decode prog_6_method_6_code 32 = .ok (.irem, 1) := by decide +kernel
theorem d_Rows_sum_33 : decode prog_6_method_6_code 33 = .ok (.istore_n 2, 1) := by decide +kernel
theorem d_Rows_sum_34 : decode prog_6_method_6_code 34 = .ok (.iinc 3 1, 3) := by decide +kernel
theorem d_Rows_sum_37 : decode prog_6_method_6_code 37 = .ok (.goto (-31), 3) := by decide +kernel
theorem d_Rows_sum_40 : decode prog_6_method_6_code 40 = .ok (.iload_n 2, 1) := by decide +kernel
theorem d_Rows_sum_41 : decode prog_6_method_6_code 41 = .ok (.ldc 64, 2) := by decide +kernel
theorem d_Rows_sum_43 : decode prog_6_method_6_code 43 = .ok (.imul, 1) := by decide +kernel
theorem d_Rows_sum_44 : decode prog_6_method_6_code 44 = .ok (.iload_n 1, 1) := by decide +kernel
theorem d_Rows_sum_45 : decode prog_6_method_6_code 45 = .ok (.iadd, 1) := by decide +kernel
theorem d_Rows_sum_46 : decode prog_6_method_6_code 46 = .ok (.ireturn, 1) := by decide +kernel
abbrev y_Rows_sum : MethodName := ⟨"PicturePacker$Rows", "sum", "()I"⟩
def wp_Rows_sum_6 (n : Nat → Nat) (rb : Nat → Int32) (post : Int32 → Unit → Prop) : Nat → Int32 → Int32 → Int32 → Prop
  | 0 => fun _ _ _ => False
  | N + 1 => fun y1 y2 y3 => ((nI (n 9) : Int32) ≤ y3 → (post ((y2 * 65536) + y1) ())) ∧ (¬ ((nI (n 9) : Int32) ≤ y3) → (vp_in y3 (n 9) ∧ (∀ z3 : Int32, z3 = ((y1 + (rb (y3 : Int32).toNatClampNeg)) - (y1 + (rb (y3 : Int32).toNatClampNeg)) / 65521 * 65521) → (∀ z4 : Int32, z4 = ((y2 + z3) - (y2 + z3) / 65521 * 65521) → (∀ z5 : Int32, z5 = (y3 + 1) → (wp_Rows_sum_6 n rb post N z3 z4 z5))))))
def wp_Rows_sum (n : Nat → Nat) (rb : Nat → Int32) (post : Int32 → Unit → Prop) : Prop := ∃ N6 : Nat, wp_Rows_sum_6 n rb post N6 1 0 0
set_option maxHeartbeats 2000000 in
set_option maxRecDepth 20000 in
theorem s_Rows_sum_6 {l : Launch} {dC : Nat → ClassId} {dI : Nat → Nat → Nat} {cI : ClassId} {tb a n : Nat → Nat} {p : Program} {e : Env} {s : State} {m : MethodId} {args : Array Value} {below : List Frame} {meth : Method} {c : Code} {A : Nat → Prop} (E : CallFix p m c prog_6_method_6_code 4 s args TBL "PicturePacker$Rows") (hr : meth.sig.returnType = some .int) (hlk : meth.locks = false) {Rows_rowLength : Int32} {rb : Nat → Int32} {post : Int32 → Unit → Prop} : ∀ (N : Nat) (y1 : Int32) (y2 : Int32) (y3 : Int32) (H : Heap) (locs : List Loc) (ls : Array Slot), Wl classes dC dI cI tb A s H locs [e_Rows a Rows_rowLength, e_ar a n cI 9 rb] → lv_has ls 4 [(0, .ref (a 2)), (1, .int y1), (2, .int y2), (3, .int y3)] → wp_Rows_sum_6 n rb post N y1 y2 y3 → W p l e ({ frames := 0, cells := 0, slots := 0, locals := 0 }) s m args below meth c H locs 0 0 (MQ below (va_Qi post (fun u => End0 classes dC dI cI A [e_Rows a Rows_rowLength, e_ar a n cI 9 rb]) A) args s 0 0 A) (F0 m 6 ls []) := by
  obtain ⟨hx, hb, hml, hown, hts⟩ := id E
  intro N
  induction N with
  | zero =>
    intro _ _ _ H locs ls hw hl h
    exact absurd h id
  | succ N ih =>
    intro y1 y2 y3 H locs ls hw hl h
    unfold wp_Rows_sum_6 at h
    refine lv_iload_n hx hb d_Rows_sum_6 rfl (lv_at hl 3 rfl) ?_
    refine lv_aload_n hx hb d_Rows_sum_7 rfl (lv_at hl 0 rfl) ?_
    refine kget (v := .ref (a 9)) (T := F_Rows) E hw in_Rows rfl 0 0 rfl (by decide) tw95 rfl d_Rows_sum_8 ?_
    refine kalen E hw 1 rfl d_Rows_sum_11 ?_
    refine lv_icmp_ge (tgt := 40) hx hb d_Rows_sum_12 (by decide) (fun c1 => ?_) (fun c1 => ?_)
    · have h := h.1 c1
      refine lv_iload_n hx hb d_Rows_sum_40 rfl (lv_at hl 2 rfl) ?_
      refine lv_ldc (v := 65536) hx hb hown (hts _ tw412) d_Rows_sum_41 ?_
      refine lv_imul hx hb d_Rows_sum_43 ?_
      refine lv_iload_n hx hb d_Rows_sum_44 rfl (lv_at hl 1 rfl) ?_
      refine lv_iadd hx hb d_Rows_sum_45 ?_
      exact retI (out := fun u => [e_Rows a Rows_rowLength, e_ar a n cI 9 rb]) (u := ()) E hr hlk rfl hw h d_Rows_sum_46
    · have h := h.2 c1
      refine lv_iload_n hx hb d_Rows_sum_15 rfl (lv_at hl 1 rfl) ?_
      refine lv_aload_n hx hb d_Rows_sum_16 rfl (lv_at hl 0 rfl) ?_
      refine kget (v := .ref (a 9)) (T := F_Rows) E hw in_Rows rfl 0 0 rfl (by decide) tw95 rfl d_Rows_sum_17 ?_
      refine lv_iload_n hx hb d_Rows_sum_20 rfl (lv_at hl 3 rfl) ?_
      obtain ⟨b2, h⟩ := h
      refine kald E hw 1 rfl b2 d_Rows_sum_21 ?_
      refine lv_iadd hx hb d_Rows_sum_22 ?_
      refine lv_ldc (v := 65521) hx hb hown (hts _ tw411) d_Rows_sum_23 ?_
      refine lv_irem hx hb d_Rows_sum_25 (by decide) ?_
      refine lv_topi (fun z3 ez3 => ?_)
      have h := h z3 ez3
      refine lv_istore_n (lv' := [(1, .int z3), (0, .ref (a 2)), (2, .int y2), (3, .int y3)]) hx hb d_Rows_sum_26 rfl hl (by decide) rfl (fun ls hl => ?_)
      refine lv_iload_n hx hb d_Rows_sum_27 rfl (lv_at hl 2 rfl) ?_
      refine lv_iload_n hx hb d_Rows_sum_28 rfl (lv_at hl 0 rfl) ?_
      refine lv_iadd hx hb d_Rows_sum_29 ?_
      refine lv_ldc (v := 65521) hx hb hown (hts _ tw411) d_Rows_sum_30 ?_
      refine lv_irem hx hb d_Rows_sum_32 (by decide) ?_
      refine lv_topi (fun z4 ez4 => ?_)
      have h := h z4 ez4
      refine lv_istore_n (lv' := [(2, .int z4), (1, .int z3), (0, .ref (a 2)), (3, .int y3)]) hx hb d_Rows_sum_33 rfl hl (by decide) rfl (fun ls hl => ?_)
      obtain ⟨z5, ez5⟩ : ∃ z : Int32, z = y3 + 1 := ⟨_, rfl⟩
      have h := h z5 ez5
      refine lv_iinc (v := z5) (lv' := [(3, .int z5), (2, .int z4), (1, .int z3), (0, .ref (a 2))]) hx hb d_Rows_sum_34 hl (k := 3) rfl (by rw [ez5]; exact congrArg (y3 + ·) (by decide)) (by decide) rfl (fun ls hl => ?_)
      refine lv_goto (tgt := 6) hx hb d_Rows_sum_37 (by decide) ?_
      exact ih z3 z4 z5 _ _ ls hw (lv_sub hl [3, 2, 1, 0] rfl) h
set_option maxHeartbeats 2000000 in
set_option maxRecDepth 20000 in
theorem c_Rows_sum {l : Launch} {dC : Nat → ClassId} {dI : Nat → Nat → Nat} {cI : ClassId} {tb a n : Nat → Nat} {Rows_rowLength : Int32} {rb : Nat → Int32} {post : Int32 → Unit → Prop} (h : wp_Rows_sum n rb post) : CtI classes dC dI cI tb l y_Rows_sum prog_6_method_6_code 4 .int ({ frames := 0, cells := 0, slots := 0, locals := 0 }) [.ref (a 2)] [e_Rows a Rows_rowLength, e_ar a n cI 9 rb] (Unit) (fun _ => [e_Rows a Rows_rowLength, e_ar a n cI 9 rb]) post := by
  refine startI (by decide) (Nat.le_of_ble_eq_true rfl) ?_
  intro p e s m below meth c ls E hr hlk hnm hl hw
  have hl : lv_has ls 4 [(0, .ref (a 2))] := hl
  generalize va_A [e_Rows a Rows_rowLength, e_ar a n cI 9 rb] s.heap.size = A at hw ⊢
  obtain ⟨hx, hb, hml, hown, hts⟩ := id E
  unfold wp_Rows_sum at h
  refine lv_iconst (v := 1) hx hb d_Rows_sum_0 (by decide) ?_
  refine lv_istore_n (lv' := [(1, .int 1), (0, .ref (a 2))]) hx hb d_Rows_sum_1 rfl hl (by decide) rfl (fun ls hl => ?_)
  refine lv_iconst (v := 0) hx hb d_Rows_sum_2 (by decide) ?_
  refine lv_istore_n (lv' := [(2, .int 0), (1, .int 1), (0, .ref (a 2))]) hx hb d_Rows_sum_3 rfl hl (by decide) rfl (fun ls hl => ?_)
  refine lv_iconst (v := 0) hx hb d_Rows_sum_4 (by decide) ?_
  refine lv_istore_n (lv' := [(3, .int 0), (2, .int 0), (1, .int 1), (0, .ref (a 2))]) hx hb d_Rows_sum_5 rfl hl (by decide) rfl (fun ls hl => ?_)
  obtain ⟨N6, h⟩ := h
  exact s_Rows_sum_6 (a := a) (n := n) (tb := tb) E hr hlk  N6 1 0 0 _ _ ls hw (lv_sub hl [3, 2, 1, 0] rfl) h
end
section
-- PicturePacker$Chunks.eightSteps(I)I
theorem d_Chk_eightSteps_0 : decode prog_2_method_2_code 0 = .ok (.iload_n 0, 1) := by decide +kernel
theorem d_Chk_eightSteps_1 : decode prog_2_method_2_code 1 = .ok (.istore_n 1, 1) := by decide +kernel
theorem d_Chk_eightSteps_2 : decode prog_2_method_2_code 2 = .ok (.iconst 0, 1) := by decide +kernel
theorem d_Chk_eightSteps_3 : decode prog_2_method_2_code 3 = .ok (.istore_n 2, 1) := by decide +kernel
theorem d_Chk_eightSteps_4 : decode prog_2_method_2_code 4 = .ok (.iload_n 2, 1) := by decide +kernel
theorem d_Chk_eightSteps_5 : decode prog_2_method_2_code 5 = .ok (.bipush 8, 2) := by decide +kernel
theorem d_Chk_eightSteps_7 : decode prog_2_method_2_code 7 = .ok (.if_icmp .ge 29, 3) := by decide +kernel
theorem d_Chk_eightSteps_10 : decode prog_2_method_2_code 10 = .ok (.iload_n 1, 1) := by decide +kernel
theorem d_Chk_eightSteps_11 : decode prog_2_method_2_code 11 = .ok (.iconst 1, 1) := by decide +kernel
theorem d_Chk_eightSteps_12 : decode prog_2_method_2_code 12 = .ok (.iand, 1) := by decide +kernel
theorem d_Chk_eightSteps_13 : decode prog_2_method_2_code 13 = .ok (.iconst 1, 1) := by decide +kernel
theorem d_Chk_eightSteps_14 : decode prog_2_method_2_code 14 = .ok (.if_icmp .ne 12, 3) := by decide +kernel
theorem d_Chk_eightSteps_17 : decode prog_2_method_2_code 17 = .ok (.iload_n 1, 1) := by decide +kernel
theorem d_Chk_eightSteps_18 : decode prog_2_method_2_code 18 = .ok (.iconst 1, 1) := by decide +kernel
theorem d_Chk_eightSteps_19 : decode prog_2_method_2_code 19 = .ok (.iushr, 1) := by decide +kernel
theorem d_Chk_eightSteps_20 : decode prog_2_method_2_code 20 = .ok (.ldc 21, 2) := by decide +kernel
theorem d_Chk_eightSteps_22 : decode prog_2_method_2_code 22 = .ok (.ixor, 1) := by decide +kernel
theorem d_Chk_eightSteps_23 : decode prog_2_method_2_code 23 = .ok (.goto 6, 3) := by decide +kernel
theorem d_Chk_eightSteps_26 : decode prog_2_method_2_code 26 = .ok (.iload_n 1, 1) := by decide +kernel
theorem d_Chk_eightSteps_27 : decode prog_2_method_2_code 27 = .ok (.iconst 1, 1) := by decide +kernel
theorem d_Chk_eightSteps_28 : decode prog_2_method_2_code 28 = .ok (.iushr, 1) := by decide +kernel
theorem d_Chk_eightSteps_29 : decode prog_2_method_2_code 29 = .ok (.istore_n 1, 1) := by decide +kernel
theorem d_Chk_eightSteps_30 : decode prog_2_method_2_code 30 = .ok (.iinc 2 1, 3) := by decide +kernel
theorem d_Chk_eightSteps_33 : decode prog_2_method_2_code 33 = .ok (.goto (-29), 3) := by decide +kernel
theorem d_Chk_eightSteps_36 : decode prog_2_method_2_code 36 = .ok (.iload_n 1, 1) := by decide +kernel
theorem d_Chk_eightSteps_37 : decode prog_2_method_2_code 37 = .ok (.ireturn, 1) := by decide +kernel
abbrev y_Chk_eightSteps : MethodName := ⟨"PicturePacker$Chunks", "eightSteps", "(I)I"⟩
def wp_Chk_eightSteps_4 (n : Nat → Nat) (x0 : Int32) (post : Int32 → Unit → Prop) : Nat → Int32 → Int32 → Prop
  | 0 => fun _ _ => False
  | N + 1 => fun y1 y2 => ((8 : Int32) ≤ y2 → (post y1 ())) ∧ (¬ ((8 : Int32) ≤ y2) → ((¬ (y1 &&& 1 : Int32) = 1 → (∀ z3 : Int32, z3 = (((y1 : Int32).toUInt32 >>> ((1 : Int32).toUInt32 &&& Int32.toUInt32 31)).toInt32) → (∀ z4 : Int32, z4 = (y2 + 1) → (wp_Chk_eightSteps_4 n x0 post N z3 z4)))) ∧ ((y1 &&& 1 : Int32) = 1 → (∀ z5 : Int32, z5 = ((((y1 : Int32).toUInt32 >>> ((1 : Int32).toUInt32 &&& Int32.toUInt32 31)).toInt32) ^^^ ((-306674912))) → (∀ z6 : Int32, z6 = (y2 + 1) → (wp_Chk_eightSteps_4 n x0 post N z5 z6))))))
def wp_Chk_eightSteps (n : Nat → Nat) (x0 : Int32) (post : Int32 → Unit → Prop) : Prop := ∃ N7 : Nat, wp_Chk_eightSteps_4 n x0 post N7 x0 0
set_option maxHeartbeats 2000000 in
set_option maxRecDepth 20000 in
theorem s_Chk_eightSteps_4 {l : Launch} {dC : Nat → ClassId} {dI : Nat → Nat → Nat} {cI : ClassId} {tb a n : Nat → Nat} {p : Program} {e : Env} {s : State} {m : MethodId} {args : Array Value} {below : List Frame} {meth : Method} {c : Code} {A : Nat → Prop} (E : CallFix p m c prog_2_method_2_code 3 s args TBL "PicturePacker$Chunks") (hr : meth.sig.returnType = some .int) (hlk : meth.locks = false) {x0 : Int32} {post : Int32 → Unit → Prop} : ∀ (N : Nat) (y1 : Int32) (y2 : Int32) (H : Heap) (locs : List Loc) (ls : Array Slot), Wl classes dC dI cI tb A s H locs [] → lv_has ls 3 [(1, .int y1), (2, .int y2)] → wp_Chk_eightSteps_4 n x0 post N y1 y2 → W p l e ({ frames := 0, cells := 0, slots := 0, locals := 0 }) s m args below meth c H locs 0 0 (MQ below (va_Qi post (fun u => End0 classes dC dI cI A []) A) args s 0 0 A) (F0 m 4 ls []) := by
  obtain ⟨hx, hb, hml, hown, hts⟩ := id E
  intro N
  induction N with
  | zero =>
    intro _ _ H locs ls hw hl h
    exact absurd h id
  | succ N ih =>
    intro y1 y2 H locs ls hw hl h
    unfold wp_Chk_eightSteps_4 at h
    refine lv_iload_n hx hb d_Chk_eightSteps_4 rfl (lv_at hl 1 rfl) ?_
    refine lv_bipush (v := 8) hx hb d_Chk_eightSteps_5 (by decide) ?_
    refine lv_icmp_ge (tgt := 36) hx hb d_Chk_eightSteps_7 (by decide) (fun c1 => ?_) (fun c1 => ?_)
    · have h := h.1 c1
      refine lv_iload_n hx hb d_Chk_eightSteps_36 rfl (lv_at hl 0 rfl) ?_
      exact retI (out := fun u => []) (u := ()) E hr hlk rfl hw h d_Chk_eightSteps_37
    · have h := h.2 c1
      refine lv_iload_n hx hb d_Chk_eightSteps_10 rfl (lv_at hl 0 rfl) ?_
      refine lv_iconst (v := 1) hx hb d_Chk_eightSteps_11 (by decide) ?_
      refine lv_iand hx hb d_Chk_eightSteps_12 ?_
      refine lv_iconst (v := 1) hx hb d_Chk_eightSteps_13 (by decide) ?_
      refine lv_icmp_ne (tgt := 26) hx hb d_Chk_eightSteps_14 (by decide) (fun c2 => ?_) (fun c2 => ?_)
      · have h := h.1 c2
        refine lv_iload_n hx hb d_Chk_eightSteps_26 rfl (lv_at hl 0 rfl) ?_
        refine lv_iconst (v := 1) hx hb d_Chk_eightSteps_27 (by decide) ?_
        refine lv_iushr (v := ((y1 : Int32).toUInt32 >>> ((1 : Int32).toUInt32 &&& Int32.toUInt32 31)).toInt32) hx hb d_Chk_eightSteps_28 rfl ?_
        refine lv_topi (fun z3 ez3 => ?_)
        have h := h z3 ez3
        refine lv_istore_n (lv' := [(1, .int z3), (2, .int y2)]) hx hb d_Chk_eightSteps_29 rfl hl (by decide) rfl (fun ls hl => ?_)
        obtain ⟨z4, ez4⟩ : ∃ z : Int32, z = y2 + 1 := ⟨_, rfl⟩
        have h := h z4 ez4
        refine lv_iinc (v := z4) (lv' := [(2, .int z4), (1, .int z3)]) hx hb d_Chk_eightSteps_30 hl (k := 1) rfl (by rw [ez4]; exact congrArg (y2 + ·) (by decide)) (by decide) rfl (fun ls hl => ?_)
        refine lv_goto (tgt := 4) hx hb d_Chk_eightSteps_33 (by decide) ?_
        exact ih z3 z4 _ _ ls hw (lv_sub hl [1, 0] rfl) h
      · have h := h.2 c2
        refine lv_iload_n hx hb d_Chk_eightSteps_17 rfl (lv_at hl 0 rfl) ?_
        refine lv_iconst (v := 1) hx hb d_Chk_eightSteps_18 (by decide) ?_
        refine lv_iushr (v := ((y1 : Int32).toUInt32 >>> ((1 : Int32).toUInt32 &&& Int32.toUInt32 31)).toInt32) hx hb d_Chk_eightSteps_19 rfl ?_
        refine lv_ldc (v := (-306674912)) hx hb hown (hts _ tw145) d_Chk_eightSteps_20 ?_
        refine lv_ixor hx hb d_Chk_eightSteps_22 ?_
        refine lv_goto (tgt := 29) hx hb d_Chk_eightSteps_23 (by decide) ?_
        refine lv_topi (fun z5 ez5 => ?_)
        have h := h z5 ez5
        refine lv_istore_n (lv' := [(1, .int z5), (2, .int y2)]) hx hb d_Chk_eightSteps_29 rfl hl (by decide) rfl (fun ls hl => ?_)
        obtain ⟨z6, ez6⟩ : ∃ z : Int32, z = y2 + 1 := ⟨_, rfl⟩
        have h := h z6 ez6
        refine lv_iinc (v := z6) (lv' := [(2, .int z6), (1, .int z5)]) hx hb d_Chk_eightSteps_30 hl (k := 1) rfl (by rw [ez6]; exact congrArg (y2 + ·) (by decide)) (by decide) rfl (fun ls hl => ?_)
        refine lv_goto (tgt := 4) hx hb d_Chk_eightSteps_33 (by decide) ?_
        exact ih z5 z6 _ _ ls hw (lv_sub hl [1, 0] rfl) h
set_option maxHeartbeats 2000000 in
set_option maxRecDepth 20000 in
theorem c_Chk_eightSteps {l : Launch} {dC : Nat → ClassId} {dI : Nat → Nat → Nat} {cI : ClassId} {tb a n : Nat → Nat} {x0 : Int32} {post : Int32 → Unit → Prop} (h : wp_Chk_eightSteps n x0 post) : CtI classes dC dI cI tb l y_Chk_eightSteps prog_2_method_2_code 3 .int ({ frames := 0, cells := 0, slots := 0, locals := 0 }) [.int x0] [] (Unit) (fun _ => []) post := by
  refine startI (by decide) (Nat.le_of_ble_eq_true rfl) ?_
  intro p e s m below meth c ls E hr hlk hnm hl hw
  have hl : lv_has ls 3 [(0, .int x0)] := hl
  generalize va_A [] s.heap.size = A at hw ⊢
  obtain ⟨hx, hb, hml, hown, hts⟩ := id E
  unfold wp_Chk_eightSteps at h
  refine lv_iload_n hx hb d_Chk_eightSteps_0 rfl (lv_at hl 0 rfl) ?_
  refine lv_istore_n (lv' := [(1, .int x0), (0, .int x0)]) hx hb d_Chk_eightSteps_1 rfl hl (by decide) rfl (fun ls hl => ?_)
  refine lv_iconst (v := 0) hx hb d_Chk_eightSteps_2 (by decide) ?_
  refine lv_istore_n (lv' := [(2, .int 0), (1, .int x0), (0, .int x0)]) hx hb d_Chk_eightSteps_3 rfl hl (by decide) rfl (fun ls hl => ?_)
  obtain ⟨N7, h⟩ := h
  exact s_Chk_eightSteps_4 (a := a) (n := n) (tb := tb) E hr hlk  N7 x0 0 _ _ ls hw (lv_sub hl [1, 0] rfl) h
-- PicturePacker$Chunks.crc(II)I
theorem d_Chk_crc_0 : decode prog_2_method_5_code 0 = .ok (.iconst (-1), 1) := by decide +kernel
theorem d_Chk_crc_1 : decode prog_2_method_5_code 1 = .ok (.istore_n 3, 1) := by decide +kernel
theorem d_Chk_crc_2 : decode prog_2_method_5_code 2 = .ok (.iload_n 1, 1) := by decide +kernel
theorem d_Chk_crc_3 : decode prog_2_method_5_code 3 = .ok (.iconst 0, 1) := by decide +kernel
theorem d_Chk_crc_4 : decode prog_2_method_5_code 4 = .ok (.invokestatic 43, 3) := by decide +kernel
theorem d_Chk_crc_7 : decode prog_2_method_5_code 7 = .ok (.istore 4, 2) := by decide +kernel
theorem d_Chk_crc_9 : decode prog_2_method_5_code 9 = .ok (.iload 4, 2) := by decide +kernel
theorem d_Chk_crc_11 : decode prog_2_method_5_code 11 = .ok (.iload_n 2, 1) := by decide +kernel
theorem d_Chk_crc_12 : decode prog_2_method_5_code 12 = .ok (.if_icmp .ge 49, 3) := by decide +kernel
theorem d_Chk_crc_15 : decode prog_2_method_5_code 15 = .ok (.iload 4, 2) := by decide +kernel
theorem d_Chk_crc_17 : decode prog_2_method_5_code 17 = .ok (.aload_n 0, 1) := by decide +kernel
theorem d_Chk_crc_18 : decode prog_2_method_5_code 18 = .ok (.getfield 7, 3) := by decide +kernel
theorem d_Chk_crc_21 : decode prog_2_method_5_code 21 = .ok (.getfield 48, 3) := by decide +kernel
theorem d_Chk_crc_24 : decode prog_2_method_5_code 24 = .ok (.arraylength, 1) := by decide +kernel
theorem d_Chk_crc_25 : decode prog_2_method_5_code 25 = .ok (.if_icmp .ge 36, 3) := by decide +kernel
theorem d_Chk_crc_28 : decode prog_2_method_5_code 28 = .ok (.iload_n 3, 1) := by decide +kernel
theorem d_Chk_crc_29 : decode prog_2_method_5_code 29 = .ok (.bipush 8, 2) := by decide +kernel
theorem d_Chk_crc_31 : decode prog_2_method_5_code 31 = .ok (.iushr, 1) := by decide +kernel
theorem d_Chk_crc_32 : decode prog_2_method_5_code 32 = .ok (.aload_n 0, 1) := by decide +kernel
theorem d_Chk_crc_33 : decode prog_2_method_5_code 33 = .ok (.getfield 13, 3) := by decide +kernel
theorem d_Chk_crc_36 : decode prog_2_method_5_code 36 = .ok (.iload_n 3, 1) := by decide +kernel
theorem d_Chk_crc_37 : decode prog_2_method_5_code 37 = .ok (.aload_n 0, 1) := by decide +kernel
theorem d_Chk_crc_38 : decode prog_2_method_5_code 38 = .ok (.getfield 7, 3) := by decide +kernel
theorem d_Chk_crc_41 : decode prog_2_method_5_code 41 = .ok (.getfield 48, 3) := by decide +kernel
theorem d_Chk_crc_44 : decode prog_2_method_5_code 44 = .ok (.iload 4, 2) := by decide +kernel
theorem d_Chk_crc_46 : decode prog_2_method_5_code 46 = .ok (.iaload, 1) := by decide +kernel
theorem d_Chk_crc_47 : decode prog_2_method_5_code 47 = .ok (.ixor, 1) := by decide +kernel
theorem d_Chk_crc_48 : decode prog_2_method_5_code 48 = .ok (.sipush 255, 3) := by decide +kernel
theorem d_Chk_crc_51 : decode prog_2_method_5_code 51 = .ok (.iand, 1) := by decide +kernel
theorem d_Chk_crc_52 : decode prog_2_method_5_code 52 = .ok (.iaload, 1) := by decide +kernel
theorem d_Chk_crc_53 : decode prog_2_method_5_code 53 = .ok (.ixor, 1) := by decide +kernel
theorem d_Chk_crc_54 : decode prog_2_method_5_code 54 = .ok (.istore_n 3, 1) := by decide +kernel
theorem d_Chk_crc_55 : decode prog_2_method_5_code 55 = .ok (.iinc 4 1, 3) := by decide +kernel
theorem d_Chk_crc_58 : decode prog_2_method_5_code 58 = .ok (.goto (-49), 3) := by decide +kernel
theorem d_Chk_crc_61 : decode prog_2_method_5_code 61 = .ok (.iload_n 3, 1) := by decide +kernel
theorem d_Chk_crc_62 : decode prog_2_method_5_code 62 = .ok (.iconst (-1), 1) := by decide +kernel
theorem d_Chk_crc_63 : decode prog_2_method_5_code 63 = .ok (.ixor, 1) := by decide +kernel
theorem d_Chk_crc_64 : decode prog_2_method_5_code 64 = .ok (.ireturn, 1) := by decide +kernel
abbrev y_Chk_crc : MethodName := ⟨"PicturePacker$Chunks", "crc", "(II)I"⟩
def wp_Chk_crc_9 (n : Nat → Nat) (ob : Nat → Int32) (ct : Nat → Int32) (x1 : Int32) (x2 : Int32) (post : Int32 → Unit → Prop) : Nat → Int32 → Int32 → Prop
  | 0 => fun _ _ => False
  | N + 1 => fun y3 y4 => ((x2 : Int32) ≤ y4 → (post (y3 ^^^ ((-1))) ())) ∧ (¬ ((x2 : Int32) ≤ y4) → (((nI (n 11) : Int32) ≤ y4 → (post (y3 ^^^ ((-1))) ())) ∧ (¬ ((nI (n 11) : Int32) ≤ y4) → (vp_in y4 (n 11) ∧ (vp_in ((y3 ^^^ (ob (y4 : Int32).toNatClampNeg)) &&& 255) (n 12) ∧ (∀ z6 : Int32, z6 = ((((y3 : Int32).toUInt32 >>> ((8 : Int32).toUInt32 &&& Int32.toUInt32 31)).toInt32) ^^^ (ct ((y3 ^^^ (ob (y4 : Int32).toNatClampNeg)) &&& 255 : Int32).toNatClampNeg)) → (∀ z7 : Int32, z7 = (y4 + 1) → (wp_Chk_crc_9 n ob ct x1 x2 post N z6 z7))))))))
def wp_Chk_crc (n : Nat → Nat) (ob : Nat → Int32) (ct : Nat → Int32) (x1 : Int32) (x2 : Int32) (post : Int32 → Unit → Prop) : Prop := ∀ z1 : Int32, z1 = (if (x1 : Int32) < 0 then 0 else x1) → (∃ N8 : Nat, wp_Chk_crc_9 n ob ct x1 x2 post N8 ((-1)) z1)
set_option maxHeartbeats 2000000 in
set_option maxRecDepth 20000 in
theorem s_Chk_crc_9 {l : Launch} {dC : Nat → ClassId} {dI : Nat → Nat → Nat} {cI : ClassId} {tb a n : Nat → Nat} {p : Program} {e : Env} {s : State} {m : MethodId} {args : Array Value} {below : List Frame} {meth : Method} {c : Code} {A : Nat → Prop} (E : CallFix p m c prog_2_method_5_code 5 s args TBL "PicturePacker$Chunks") (hr : meth.sig.returnType = some .int) (hlk : meth.locks = false) {Out_size : Int32} {Out_gathered : Int32} {Out_gatheredBits : Int32} {Chk_start : Int32} {ob : Nat → Int32} {ct : Nat → Int32} {x1 : Int32} {x2 : Int32} {post : Int32 → Unit → Prop} : ∀ (N : Nat) (y3 : Int32) (y4 : Int32) (H : Heap) (locs : List Loc) (ls : Array Slot), Wl classes dC dI cI tb A s H locs [e_Out a Out_size Out_gathered Out_gatheredBits, e_Chk a Chk_start, e_ar a n cI 11 ob, e_ar a n cI 12 ct] → lv_has ls 5 [(0, .ref (a 4)), (2, .int x2), (3, .int y3), (4, .int y4)] → wp_Chk_crc_9 n ob ct x1 x2 post N y3 y4 → W p l e ({ frames := 1, cells := 0, slots := 0, locals := 21 }) s m args below meth c H locs 0 0 (MQ below (va_Qi post (fun u => End0 classes dC dI cI A [e_Out a Out_size Out_gathered Out_gatheredBits, e_Chk a Chk_start, e_ar a n cI 11 ob, e_ar a n cI 12 ct]) A) args s 0 0 A) (F0 m 9 ls []) := by
  obtain ⟨hx, hb, hml, hown, hts⟩ := id E
  intro N
  induction N with
  | zero =>
    intro _ _ H locs ls hw hl h
    exact absurd h id
  | succ N ih =>
    intro y3 y4 H locs ls hw hl h
    unfold wp_Chk_crc_9 at h
    refine lv_iload hx hb d_Chk_crc_9 (lv_at hl 3 rfl) ?_
    refine lv_iload_n hx hb d_Chk_crc_11 rfl (lv_at hl 1 rfl) ?_
    refine lv_icmp_ge (tgt := 61) hx hb d_Chk_crc_12 (by decide) (fun c2 => ?_) (fun c2 => ?_)
    · have h := h.1 c2
      refine lv_iload_n hx hb d_Chk_crc_61 rfl (lv_at hl 2 rfl) ?_
      refine lv_iconst (v := (-1)) hx hb d_Chk_crc_62 (by decide) ?_
      refine lv_ixor hx hb d_Chk_crc_63 ?_
      exact retI (out := fun u => [e_Out a Out_size Out_gathered Out_gatheredBits, e_Chk a Chk_start, e_ar a n cI 11 ob, e_ar a n cI 12 ct]) (u := ()) E hr hlk rfl hw h d_Chk_crc_64
    · have h := h.2 c2
      refine lv_iload hx hb d_Chk_crc_15 (lv_at hl 3 rfl) ?_
      refine lv_aload_n hx hb d_Chk_crc_17 rfl (lv_at hl 0 rfl) ?_
      refine kget (v := .ref (a 3)) (T := F_Chk) E hw in_Chk rfl 1 0 rfl (by decide) tw146 rfl d_Chk_crc_18 ?_
      refine kget (v := .ref (a 11)) (T := F_Out) E hw in_Out rfl 0 0 rfl (by decide) tw120 rfl d_Chk_crc_21 ?_
      refine kalen E hw 2 rfl d_Chk_crc_24 ?_
      refine lv_icmp_ge (tgt := 61) hx hb d_Chk_crc_25 (by decide) (fun c3 => ?_) (fun c3 => ?_)
      · have h := h.1 c3
        refine lv_iload_n hx hb d_Chk_crc_61 rfl (lv_at hl 2 rfl) ?_
        refine lv_iconst (v := (-1)) hx hb d_Chk_crc_62 (by decide) ?_
        refine lv_ixor hx hb d_Chk_crc_63 ?_
        exact retI (out := fun u => [e_Out a Out_size Out_gathered Out_gatheredBits, e_Chk a Chk_start, e_ar a n cI 11 ob, e_ar a n cI 12 ct]) (u := ()) E hr hlk rfl hw h d_Chk_crc_64
      · have h := h.2 c3
        refine lv_iload_n hx hb d_Chk_crc_28 rfl (lv_at hl 2 rfl) ?_
        refine lv_bipush (v := 8) hx hb d_Chk_crc_29 (by decide) ?_
        refine lv_iushr (v := ((y3 : Int32).toUInt32 >>> ((8 : Int32).toUInt32 &&& Int32.toUInt32 31)).toInt32) hx hb d_Chk_crc_31 rfl ?_
        refine lv_aload_n hx hb d_Chk_crc_32 rfl (lv_at hl 0 rfl) ?_
        refine kget (v := .ref (a 12)) (T := F_Chk) E hw in_Chk rfl 1 1 rfl (by decide) tw147 rfl d_Chk_crc_33 ?_
        refine lv_iload_n hx hb d_Chk_crc_36 rfl (lv_at hl 2 rfl) ?_
        refine lv_aload_n hx hb d_Chk_crc_37 rfl (lv_at hl 0 rfl) ?_
        refine kget (v := .ref (a 3)) (T := F_Chk) E hw in_Chk rfl 1 0 rfl (by decide) tw146 rfl d_Chk_crc_38 ?_
        refine kget (v := .ref (a 11)) (T := F_Out) E hw in_Out rfl 0 0 rfl (by decide) tw120 rfl d_Chk_crc_41 ?_
        refine lv_iload hx hb d_Chk_crc_44 (lv_at hl 3 rfl) ?_
        obtain ⟨b4, h⟩ := h
        refine kald E hw 2 rfl b4 d_Chk_crc_46 ?_
        refine lv_ixor hx hb d_Chk_crc_47 ?_
        refine lv_sipush (v := 255) hx hb d_Chk_crc_48 (by decide) ?_
        refine lv_iand hx hb d_Chk_crc_51 ?_
        obtain ⟨b5, h⟩ := h
        refine kald E hw 3 rfl b5 d_Chk_crc_52 ?_
        refine lv_ixor hx hb d_Chk_crc_53 ?_
        refine lv_topi (fun z6 ez6 => ?_)
        have h := h z6 ez6
        refine lv_istore_n (lv' := [(3, .int z6), (0, .ref (a 4)), (2, .int x2), (4, .int y4)]) hx hb d_Chk_crc_54 rfl hl (by decide) rfl (fun ls hl => ?_)
        obtain ⟨z7, ez7⟩ : ∃ z : Int32, z = y4 + 1 := ⟨_, rfl⟩
        have h := h z7 ez7
        refine lv_iinc (v := z7) (lv' := [(4, .int z7), (3, .int z6), (0, .ref (a 4)), (2, .int x2)]) hx hb d_Chk_crc_55 hl (k := 3) rfl (by rw [ez7]; exact congrArg (y4 + ·) (by decide)) (by decide) rfl (fun ls hl => ?_)
        refine lv_goto (tgt := 9) hx hb d_Chk_crc_58 (by decide) ?_
        exact ih z6 z7 _ _ ls hw (lv_sub hl [2, 3, 1, 0] rfl) h
set_option maxHeartbeats 2000000 in
set_option maxRecDepth 20000 in
theorem c_Chk_crc {l : Launch} {dC : Nat → ClassId} {dI : Nat → Nat → Nat} {cI : ClassId} {tb a n : Nat → Nat} {Out_size : Int32} {Out_gathered : Int32} {Out_gatheredBits : Int32} {Chk_start : Int32} {ob : Nat → Int32} {ct : Nat → Int32} {x1 : Int32} {x2 : Int32} {post : Int32 → Unit → Prop} (h : wp_Chk_crc n ob ct x1 x2 post) : CtI classes dC dI cI tb l y_Chk_crc prog_2_method_5_code 5 .int ({ frames := 1, cells := 0, slots := 0, locals := 21 }) [.ref (a 4), .int x1, .int x2] [e_Out a Out_size Out_gathered Out_gatheredBits, e_Chk a Chk_start, e_ar a n cI 11 ob, e_ar a n cI 12 ct] (Unit) (fun _ => [e_Out a Out_size Out_gathered Out_gatheredBits, e_Chk a Chk_start, e_ar a n cI 11 ob, e_ar a n cI 12 ct]) post := by
  refine startI (by decide) (Nat.le_of_ble_eq_true rfl) ?_
  intro p e s m below meth c ls E hr hlk hnm hl hw
  have hl : lv_has ls 5 [(0, .ref (a 4)), (1, .int x1), (2, .int x2)] := hl
  generalize va_A [e_Out a Out_size Out_gathered Out_gatheredBits, e_Chk a Chk_start, e_ar a n cI 11 ob, e_ar a n cI 12 ct] s.heap.size = A at hw ⊢
  obtain ⟨hx, hb, hml, hown, hts⟩ := id E
  unfold wp_Chk_crc at h
  refine lv_iconst (v := (-1)) hx hb d_Chk_crc_0 (by decide) ?_
  refine lv_istore_n (lv' := [(3, .int ((-1))), (0, .ref (a 4)), (1, .int x1), (2, .int x2)]) hx hb d_Chk_crc_1 rfl hl (by decide) rfl (fun ls hl => ?_)
  refine lv_iload_n hx hb d_Chk_crc_2 rfl (lv_at hl 2 rfl) ?_
  refine lv_iconst (v := 0) hx hb d_Chk_crc_3 (by decide) ?_
  refine kmax E hl.1 tw332 tw62 tw37 tw63 (Nat.le_of_ble_eq_true rfl) (Nat.le_of_ble_eq_true rfl) (Nat.le_of_ble_eq_true rfl) (Nat.le_of_ble_eq_true rfl) d_Chk_crc_4 ?_
  refine lv_topi (fun z1 ez1 => ?_)
  have h := h z1 ez1
  refine lv_istore (lv' := [(4, .int z1), (3, .int ((-1))), (0, .ref (a 4)), (1, .int x1), (2, .int x2)]) hx hb d_Chk_crc_7 hl (by decide) rfl (fun ls hl => ?_)
  obtain ⟨N8, h⟩ := h
  exact s_Chk_crc_9 (a := a) (n := n) (tb := tb) E hr hlk  N8 ((-1)) z1 _ _ ls hw (lv_sub hl [2, 4, 1, 0] rfl) h
-- PicturePacker$Chunks.open(I)V
theorem d_Chk_open_0 : decode prog_2_method_3_code 0 = .ok (.aload_n 0, 1) := by decide +kernel
theorem d_Chk_open_1 : decode prog_2_method_3_code 1 = .ok (.aload_n 0, 1) := by decide +kernel
theorem d_Chk_open_2 : decode prog_2_method_3_code 2 = .ok (.getfield 7, 3) := by decide +kernel
theorem d_Chk_open_5 : decode prog_2_method_3_code 5 = .ok (.getfield 22, 3) := by decide +kernel
theorem d_Chk_open_8 : decode prog_2_method_3_code 8 = .ok (.putfield 28, 3) := by decide +kernel
theorem d_Chk_open_11 : decode prog_2_method_3_code 11 = .ok (.aload_n 0, 1) := by decide +kernel
theorem d_Chk_open_12 : decode prog_2_method_3_code 12 = .ok (.getfield 7, 3) := by decide +kernel
theorem d_Chk_open_15 : decode prog_2_method_3_code 15 = .ok (.iconst 0, 1) := by decide +kernel
theorem d_Chk_open_16 : decode prog_2_method_3_code 16 = .ok (.invokevirtual 31, 3) := by decide +kernel
theorem d_Chk_open_19 : decode prog_2_method_3_code 19 = .ok (.aload_n 0, 1) := by decide +kernel
theorem d_Chk_open_20 : decode prog_2_method_3_code 20 = .ok (.getfield 7, 3) := by decide +kernel
theorem d_Chk_open_23 : decode prog_2_method_3_code 23 = .ok (.iload_n 1, 1) := by decide +kernel
theorem d_Chk_open_24 : decode prog_2_method_3_code 24 = .ok (.invokevirtual 31, 3) := by decide +kernel
theorem d_Chk_open_27 : decode prog_2_method_3_code 27 = .ok (.return_, 1) := by decide +kernel
abbrev y_Chk_open : MethodName := ⟨"PicturePacker$Chunks", "open", "(I)V"⟩
def wp_Chk_open (n : Nat → Nat) (Out_size : Int32) (Chk_start : Int32) (ob : Nat → Int32) (x1 : Int32) (post : Int32 × Int32 × (Nat → Int32) → Prop) : Prop := wp_Out_addNumber n Out_size ob 0 (fun u1 => wp_Out_addNumber n u1.1 u1.2 x1 (fun u3 => post (u3.1, Out_size, u3.2)))
set_option maxHeartbeats 2000000 in
set_option maxRecDepth 20000 in
theorem c_Chk_open {l : Launch} {dC : Nat → ClassId} {dI : Nat → Nat → Nat} {cI : ClassId} {tb a n : Nat → Nat} {Out_size : Int32} {Out_gathered : Int32} {Out_gatheredBits : Int32} {Chk_start : Int32} {ob : Nat → Int32} {x1 : Int32} {post : Int32 × Int32 × (Nat → Int32) → Prop} (h : wp_Chk_open n Out_size Chk_start ob x1 post) : CtV classes dC dI cI tb l y_Chk_open prog_2_method_3_code 2 ({ frames := 2, cells := 0, slots := 0, locals := 43 }) [.ref (a 4), .int x1] [e_Out a Out_size Out_gathered Out_gatheredBits, e_Chk a Chk_start, e_ar a n cI 11 ob] (Int32 × Int32 × (Nat → Int32)) (fun u => [e_Out a u.1 Out_gathered Out_gatheredBits, e_Chk a u.2.1, e_ar a n cI 11 u.2.2]) post := by
  refine startV (by decide) (Nat.le_of_ble_eq_true rfl) ?_
  intro p e s m below meth c ls E hr hlk hnm hl hw
  have hl : lv_has ls 2 [(0, .ref (a 4)), (1, .int x1)] := hl
  generalize va_A [e_Out a Out_size Out_gathered Out_gatheredBits, e_Chk a Chk_start, e_ar a n cI 11 ob] s.heap.size = A at hw ⊢
  obtain ⟨hx, hb, hml, hown, hts⟩ := id E
  unfold wp_Chk_open at h
  refine lv_aload_n hx hb d_Chk_open_0 rfl (lv_at hl 0 rfl) ?_
  refine lv_aload_n hx hb d_Chk_open_1 rfl (lv_at hl 0 rfl) ?_
  refine kget (v := .ref (a 3)) (T := F_Chk) E hw in_Chk rfl 1 0 rfl (by decide) tw146 rfl d_Chk_open_2 ?_
  refine kget (v := .int Out_size) (T := F_Out) E hw in_Out rfl 0 1 rfl (by decide) tw123 rfl d_Chk_open_5 ?_
  refine kput (v := .int Out_size) (ty := .int) (T := F_Chk) (ws' := [e_Out a Out_size Out_gathered Out_gatheredBits, e_Chk a Out_size, e_ar a n cI 11 ob]) E hw in_Chk t_Chk t_Chk_ok n_Chk rfl 1 2 rfl (by decide) tw148 rfl rfl rfl rfl (Nat.le_of_ble_eq_true rfl) rfl d_Chk_open_8 (fun H locs hw => ?_)
  refine lv_aload_n hx hb d_Chk_open_11 rfl (lv_at hl 0 rfl) ?_
  refine kget (v := .ref (a 3)) (T := F_Chk) E hw in_Chk rfl 1 0 rfl (by decide) tw146 rfl d_Chk_open_12 ?_
  refine lv_iconst (v := 0) hx hb d_Chk_open_15 (by decide) ?_
  refine kVv (y := y_Out_addNumber) (ws' := fun u1 => [e_Out a u1.1 Out_gathered Out_gatheredBits, e_Chk a Out_size, e_ar a n cI 11 u1.2]) (wr := [e_Chk a Out_size]) (As := [.int 0]) (rest := []) E hw (c_Out_addNumber (l := l) (dC := dC) (dI := dI) (cI := cI) (tb := tb) (a := a) (n := n) (Out_size := Out_size) (Out_gathered := Out_gathered) (Out_gatheredBits := Out_gatheredBits) (ob := ob) (x1 := 0) h) tw313 tw314 tw315 tw40 tw316 1 (by decide) ⟨Nat.le_of_ble_eq_true rfl, Nat.le_of_ble_eq_true rfl⟩ ⟨Nat.le_of_ble_eq_true rfl, Nat.le_of_ble_eq_true rfl⟩ ⟨rfl, rfl⟩ rfl rfl 0 rfl [0, 2] [1] [1, 0, 2] rfl rfl rfl rfl (by decide) rfl (fun _ => rfl) hl.1 rfl rfl (Nat.le_of_ble_eq_true rfl) d_Chk_open_16 (fun u1 H locs h hw => ?_)
  refine lv_aload_n hx hb d_Chk_open_19 rfl (lv_at hl 0 rfl) ?_
  refine kget (v := .ref (a 3)) (T := F_Chk) E hw in_Chk rfl 1 0 rfl (by decide) tw146 rfl d_Chk_open_20 ?_
  refine lv_iload_n hx hb d_Chk_open_23 rfl (lv_at hl 1 rfl) ?_
  refine kVv (y := y_Out_addNumber) (ws' := fun u3 => [e_Out a u3.1 Out_gathered Out_gatheredBits, e_Chk a Out_size, e_ar a n cI 11 u3.2]) (wr := [e_Chk a Out_size]) (As := [.int x1]) (rest := []) E hw (c_Out_addNumber (l := l) (dC := dC) (dI := dI) (cI := cI) (tb := tb) (a := a) (n := n) (Out_size := u1.1) (Out_gathered := Out_gathered) (Out_gatheredBits := Out_gatheredBits) (ob := u1.2) (x1 := x1) h) tw313 tw314 tw315 tw40 tw316 1 (by decide) ⟨Nat.le_of_ble_eq_true rfl, Nat.le_of_ble_eq_true rfl⟩ ⟨Nat.le_of_ble_eq_true rfl, Nat.le_of_ble_eq_true rfl⟩ ⟨rfl, rfl⟩ rfl rfl 0 rfl [0, 2] [1] [1, 0, 2] rfl rfl rfl rfl (by decide) rfl (fun _ => rfl) hl.1 rfl rfl (Nat.le_of_ble_eq_true rfl) d_Chk_open_24 (fun u3 H locs h hw => ?_)
  exact retV (out := fun u => [e_Out a u.1 Out_gathered Out_gatheredBits, e_Chk a u.2.1, e_ar a n cI 11 u.2.2]) (u := (u3.1, Out_size, u3.2)) E hr hlk hw h d_Chk_open_27
-- PicturePacker$Chunks.close()V
theorem d_Chk_close_0 : decode prog_2_method_4_code 0 = .ok (.aload_n 0, 1) := by decide +kernel
theorem d_Chk_close_1 : decode prog_2_method_4_code 1 = .ok (.getfield 7, 3) := by decide +kernel
theorem d_Chk_close_4 : decode prog_2_method_4_code 4 = .ok (.aload_n 0, 1) := by decide +kernel
theorem d_Chk_close_5 : decode prog_2_method_4_code 5 = .ok (.getfield 28, 3) := by decide +kernel
theorem d_Chk_close_8 : decode prog_2_method_4_code 8 = .ok (.aload_n 0, 1) := by decide +kernel
theorem d_Chk_close_9 : decode prog_2_method_4_code 9 = .ok (.getfield 7, 3) := by decide +kernel
theorem d_Chk_close_12 : decode prog_2_method_4_code 12 = .ok (.getfield 22, 3) := by decide +kernel
theorem d_Chk_close_15 : decode prog_2_method_4_code 15 = .ok (.aload_n 0, 1) := by decide +kernel
theorem d_Chk_close_16 : decode prog_2_method_4_code 16 = .ok (.getfield 28, 3) := by decide +kernel
theorem d_Chk_close_19 : decode prog_2_method_4_code 19 = .ok (.isub, 1) := by decide +kernel
theorem d_Chk_close_20 : decode prog_2_method_4_code 20 = .ok (.bipush 8, 2) := by decide +kernel
theorem d_Chk_close_22 : decode prog_2_method_4_code 22 = .ok (.isub, 1) := by decide +kernel
theorem d_Chk_close_23 : decode prog_2_method_4_code 23 = .ok (.invokevirtual 35, 3) := by decide +kernel
theorem d_Chk_close_26 : decode prog_2_method_4_code 26 = .ok (.aload_n 0, 1) := by decide +kernel
theorem d_Chk_close_27 : decode prog_2_method_4_code 27 = .ok (.getfield 7, 3) := by decide +kernel
theorem d_Chk_close_30 : decode prog_2_method_4_code 30 = .ok (.aload_n 0, 1) := by decide +kernel
theorem d_Chk_close_31 : decode prog_2_method_4_code 31 = .ok (.aload_n 0, 1) := by decide +kernel
theorem d_Chk_close_32 : decode prog_2_method_4_code 32 = .ok (.getfield 28, 3) := by decide +kernel
theorem d_Chk_close_35 : decode prog_2_method_4_code 35 = .ok (.iconst 4, 1) := by decide +kernel
theorem d_Chk_close_36 : decode prog_2_method_4_code 36 = .ok (.iadd, 1) := by decide +kernel
theorem d_Chk_close_37 : decode prog_2_method_4_code 37 = .ok (.aload_n 0, 1) := by decide +kernel
theorem d_Chk_close_38 : decode prog_2_method_4_code 38 = .ok (.getfield 7, 3) := by decide +kernel
theorem d_Chk_close_41 : decode prog_2_method_4_code 41 = .ok (.getfield 22, 3) := by decide +kernel
theorem d_Chk_close_44 : decode prog_2_method_4_code 44 = .ok (.invokevirtual 39, 3) := by decide +kernel
theorem d_Chk_close_47 : decode prog_2_method_4_code 47 = .ok (.invokevirtual 31, 3) := by decide +kernel
theorem d_Chk_close_50 : decode prog_2_method_4_code 50 = .ok (.return_, 1) := by decide +kernel
abbrev y_Chk_close : MethodName := ⟨"PicturePacker$Chunks", "close", "()V"⟩
def wp_Chk_close (n : Nat → Nat) (Out_size : Int32) (Chk_start : Int32) (ob : Nat → Int32) (ct : Nat → Int32) (post : Int32 × (Nat → Int32) → Prop) : Prop := wp_Out_changeNumber n ob Chk_start ((Out_size - Chk_start) - 8) (fun u1 => wp_Chk_crc n u1 ct (Chk_start + 4) Out_size (fun r4 _ => wp_Out_addNumber n Out_size u1 r4 (fun u5 => post (u5.1, u5.2))))
set_option maxHeartbeats 2000000 in
set_option maxRecDepth 20000 in
theorem c_Chk_close {l : Launch} {dC : Nat → ClassId} {dI : Nat → Nat → Nat} {cI : ClassId} {tb a n : Nat → Nat} {Out_size : Int32} {Out_gathered : Int32} {Out_gatheredBits : Int32} {Chk_start : Int32} {ob : Nat → Int32} {ct : Nat → Int32} {post : Int32 × (Nat → Int32) → Prop} (h : wp_Chk_close n Out_size Chk_start ob ct post) : CtV classes dC dI cI tb l y_Chk_close prog_2_method_4_code 1 ({ frames := 2, cells := 0, slots := 0, locals := 45 }) [.ref (a 4)] [e_Out a Out_size Out_gathered Out_gatheredBits, e_Chk a Chk_start, e_ar a n cI 11 ob, e_ar a n cI 12 ct] (Int32 × (Nat → Int32)) (fun u => [e_Out a u.1 Out_gathered Out_gatheredBits, e_Chk a Chk_start, e_ar a n cI 11 u.2, e_ar a n cI 12 ct]) post := by
  refine startV (by decide) (Nat.le_of_ble_eq_true rfl) ?_
  intro p e s m below meth c ls E hr hlk hnm hl hw
  have hl : lv_has ls 1 [(0, .ref (a 4))] := hl
  generalize va_A [e_Out a Out_size Out_gathered Out_gatheredBits, e_Chk a Chk_start, e_ar a n cI 11 ob, e_ar a n cI 12 ct] s.heap.size = A at hw ⊢
  obtain ⟨hx, hb, hml, hown, hts⟩ := id E
  unfold wp_Chk_close at h
  refine lv_aload_n hx hb d_Chk_close_0 rfl (lv_at hl 0 rfl) ?_
  refine kget (v := .ref (a 3)) (T := F_Chk) E hw in_Chk rfl 1 0 rfl (by decide) tw146 rfl d_Chk_close_1 ?_
  refine lv_aload_n hx hb d_Chk_close_4 rfl (lv_at hl 0 rfl) ?_
  refine kget (v := .int Chk_start) (T := F_Chk) E hw in_Chk rfl 1 2 rfl (by decide) tw148 rfl d_Chk_close_5 ?_
  refine lv_aload_n hx hb d_Chk_close_8 rfl (lv_at hl 0 rfl) ?_
  refine kget (v := .ref (a 3)) (T := F_Chk) E hw in_Chk rfl 1 0 rfl (by decide) tw146 rfl d_Chk_close_9 ?_
  refine kget (v := .int Out_size) (T := F_Out) E hw in_Out rfl 0 1 rfl (by decide) tw123 rfl d_Chk_close_12 ?_
  refine lv_aload_n hx hb d_Chk_close_15 rfl (lv_at hl 0 rfl) ?_
  refine kget (v := .int Chk_start) (T := F_Chk) E hw in_Chk rfl 1 2 rfl (by decide) tw148 rfl d_Chk_close_16 ?_
  refine lv_isub hx hb d_Chk_close_19 ?_
  refine lv_bipush (v := 8) hx hb d_Chk_close_20 (by decide) ?_
  refine lv_isub hx hb d_Chk_close_22 ?_
  refine kVv (y := y_Out_changeNumber) (ws' := fun u1 => [e_Out a Out_size Out_gathered Out_gatheredBits, e_Chk a Chk_start, e_ar a n cI 11 u1, e_ar a n cI 12 ct]) (wr := [e_Chk a Chk_start, e_ar a n cI 12 ct]) (As := [.int Chk_start, .int ((Out_size - Chk_start) - 8)]) (rest := []) E hw (c_Out_changeNumber (l := l) (dC := dC) (dI := dI) (cI := cI) (tb := tb) (a := a) (n := n) (Out_size := Out_size) (Out_gathered := Out_gathered) (Out_gatheredBits := Out_gatheredBits) (ob := ob) (x1 := Chk_start) (x2 := (Out_size - Chk_start) - 8) h) tw324 tw325 tw326 tw40 tw327 2 (by decide) ⟨Nat.le_of_ble_eq_true rfl, Nat.le_of_ble_eq_true rfl⟩ ⟨Nat.le_of_ble_eq_true rfl, Nat.le_of_ble_eq_true rfl⟩ ⟨rfl, rfl⟩ rfl rfl 0 rfl [0, 2] [1, 3] [2, 0, 3, 1] rfl rfl rfl rfl (by decide) rfl (fun _ => rfl) hl.1 rfl rfl (Nat.le_of_ble_eq_true rfl) d_Chk_close_23 (fun u1 H locs h hw => ?_)
  refine lv_aload_n hx hb d_Chk_close_26 rfl (lv_at hl 0 rfl) ?_
  refine kget (v := .ref (a 3)) (T := F_Chk) E hw in_Chk rfl 1 0 rfl (by decide) tw146 rfl d_Chk_close_27 ?_
  refine lv_aload_n hx hb d_Chk_close_30 rfl (lv_at hl 0 rfl) ?_
  refine lv_aload_n hx hb d_Chk_close_31 rfl (lv_at hl 0 rfl) ?_
  refine kget (v := .int Chk_start) (T := F_Chk) E hw in_Chk rfl 1 2 rfl (by decide) tw148 rfl d_Chk_close_32 ?_
  refine lv_iconst (v := 4) hx hb d_Chk_close_35 (by decide) ?_
  refine lv_iadd hx hb d_Chk_close_36 ?_
  refine lv_aload_n hx hb d_Chk_close_37 rfl (lv_at hl 0 rfl) ?_
  refine kget (v := .ref (a 3)) (T := F_Chk) E hw in_Chk rfl 1 0 rfl (by decide) tw146 rfl d_Chk_close_38 ?_
  refine kget (v := .int Out_size) (T := F_Out) E hw in_Out rfl 0 1 rfl (by decide) tw123 rfl d_Chk_close_41 ?_
  refine kVi (y := y_Chk_crc) (ws' := fun _ => [e_Out a Out_size Out_gathered Out_gatheredBits, e_Chk a Chk_start, e_ar a n cI 11 u1, e_ar a n cI 12 ct]) (wr := []) (As := [.int (Chk_start + 4), .int Out_size]) (rest := [.ref (a 3)]) E hw (c_Chk_crc (l := l) (dC := dC) (dI := dI) (cI := cI) (tb := tb) (a := a) (n := n) (Out_size := Out_size) (Out_gathered := Out_gathered) (Out_gatheredBits := Out_gatheredBits) (Chk_start := Chk_start) (ob := u1) (ct := ct) (x1 := Chk_start + 4) (x2 := Out_size) h) tw328 tw330 tw4 tw41 tw331 2 (by decide) ⟨Nat.le_of_ble_eq_true rfl, Nat.le_of_ble_eq_true rfl⟩ ⟨Nat.le_of_ble_eq_true rfl, Nat.le_of_ble_eq_true rfl⟩ ⟨rfl, rfl⟩ rfl rfl 1 rfl [0, 1, 2, 3] [] [0, 1, 2, 3] rfl rfl rfl rfl (by decide) rfl (fun _ => rfl) hl.1 rfl rfl (Nat.le_of_ble_eq_true rfl) d_Chk_close_44 (fun r4 u3 H locs h hw => ?_)
  refine kVv (y := y_Out_addNumber) (ws' := fun u5 => [e_Out a u5.1 Out_gathered Out_gatheredBits, e_Chk a Chk_start, e_ar a n cI 11 u5.2, e_ar a n cI 12 ct]) (wr := [e_Chk a Chk_start, e_ar a n cI 12 ct]) (As := [.int r4]) (rest := []) E hw (c_Out_addNumber (l := l) (dC := dC) (dI := dI) (cI := cI) (tb := tb) (a := a) (n := n) (Out_size := Out_size) (Out_gathered := Out_gathered) (Out_gatheredBits := Out_gatheredBits) (ob := u1) (x1 := r4) h) tw313 tw314 tw315 tw40 tw316 1 (by decide) ⟨Nat.le_of_ble_eq_true rfl, Nat.le_of_ble_eq_true rfl⟩ ⟨Nat.le_of_ble_eq_true rfl, Nat.le_of_ble_eq_true rfl⟩ ⟨rfl, rfl⟩ rfl rfl 0 rfl [0, 2] [1, 3] [2, 0, 3, 1] rfl rfl rfl rfl (by decide) rfl (fun _ => rfl) hl.1 rfl rfl (Nat.le_of_ble_eq_true rfl) d_Chk_close_47 (fun u5 H locs h hw => ?_)
  exact retV (out := fun u => [e_Out a u.1 Out_gathered Out_gatheredBits, e_Chk a Chk_start, e_ar a n cI 11 u.2, e_ar a n cI 12 ct]) (u := (u5.1, u5.2)) E hr hlk hw h d_Chk_close_50
end
section
-- java/util/Arrays.fill([II)V
theorem d_Arr_fill_0 : decode prog_11_method_103_code 0 = .ok (.iconst 0, 1) := by decide +kernel
theorem d_Arr_fill_1 : decode prog_11_method_103_code 1 = .ok (.istore_n 2, 1) := by decide +kernel
theorem d_Arr_fill_2 : decode prog_11_method_103_code 2 = .ok (.aload_n 0, 1) := by decide +kernel
theorem d_Arr_fill_3 : decode prog_11_method_103_code 3 = .ok (.arraylength, 1) := by decide +kernel
theorem d_Arr_fill_4 : decode prog_11_method_103_code 4 = .ok (.istore_n 3, 1) := by decide +kernel
theorem d_Arr_fill_5 : decode prog_11_method_103_code 5 = .ok (.iload_n 2, 1) := by decide +kernel
theorem d_Arr_fill_6 : decode prog_11_method_103_code 6 = .ok (.iload_n 3, 1) := by decide +kernel
theorem d_Arr_fill_7 : decode prog_11_method_103_code 7 = .ok (.if_icmp .ge 13, 3) := by decide +kernel
theorem d_Arr_fill_10 : decode prog_11_method_103_code 10 = .ok (.aload_n 0, 1) := by decide +kernel
theorem d_Arr_fill_11 : decode prog_11_method_103_code 11 = .ok (.iload_n 2, 1) := by decide +kernel
theorem d_Arr_fill_12 : decode prog_11_method_103_code 12 = .ok (.iload_n 1, 1) := by decide +kernel
theorem d_Arr_fill_13 : decode prog_11_method_103_code 13 = .ok (.iastore, 1) := by decide +kernel
theorem d_Arr_fill_14 : decode prog_11_method_103_code 14 = .ok (.iinc 2 1, 3) := by decide +kernel
theorem d_Arr_fill_17 : decode prog_11_method_103_code 17 = .ok (.goto (-12), 3) := by decide +kernel
theorem d_Arr_fill_20 : decode prog_11_method_103_code 20 = .ok (.return_, 1) := by decide +kernel
abbrev y_Arr_fill : MethodName := ⟨"java/util/Arrays", "fill", "([II)V"⟩
def wp_Arr_fill_5 (n : Nat → Nat) (x1 : Int32) (post : ((Nat → Int32)) → Prop) : Nat → (Nat → Int32) → Int32 → Int32 → Prop
  | 0 => fun _ _ _ => False
  | N + 1 => fun ga y2 y3 => ((y3 : Int32) ≤ y2 → (post ga)) ∧ (¬ ((y3 : Int32) ≤ y2) → (vp_in y2 (n 18) ∧ (∀ f4 : Nat → Int32, f4 = upd ga (y2 : Int32).toNatClampNeg x1 → (∀ z5 : Int32, z5 = (y2 + 1) → (wp_Arr_fill_5 n x1 post N f4 z5 y3)))))
def wp_Arr_fill (n : Nat → Nat) (ga : Nat → Int32) (x1 : Int32) (post : ((Nat → Int32)) → Prop) : Prop := ∀ z1 : Int32, z1 = (nI (n 18)) → (∃ N6 : Nat, wp_Arr_fill_5 n x1 post N6 ga 0 z1)
set_option maxHeartbeats 2000000 in
set_option maxRecDepth 20000 in
theorem s_Arr_fill_5 {l : Launch} {dC : Nat → ClassId} {dI : Nat → Nat → Nat} {cI : ClassId} {tb a n : Nat → Nat} {p : Program} {e : Env} {s : State} {m : MethodId} {args : Array Value} {below : List Frame} {meth : Method} {c : Code} {A : Nat → Prop} (E : CallFix p m c prog_11_method_103_code 4 s args TBL "java/util/Arrays") (hr : meth.sig.returnType = none) (hlk : meth.locks = false) {x1 : Int32} {post : ((Nat → Int32)) → Prop} : ∀ (N : Nat) (ga : Nat → Int32) (y2 : Int32) (y3 : Int32) (H : Heap) (locs : List Loc) (ls : Array Slot), Wl classes dC dI cI tb A s H locs [e_ar a n cI 18 ga] → lv_has ls 4 [(0, .ref (a 18)), (1, .int x1), (2, .int y2), (3, .int y3)] → wp_Arr_fill_5 n x1 post N ga y2 y3 → W p l e ({ frames := 0, cells := 0, slots := 0, locals := 0 }) s m args below meth c H locs 0 0 (MQ below (va_Qv post (fun u => End0 classes dC dI cI A [e_ar a n cI 18 u]) A) args s 0 0 A) (F0 m 5 ls []) := by
  obtain ⟨hx, hb, hml, hown, hts⟩ := id E
  intro N
  induction N with
  | zero =>
    intro _ _ _ H locs ls hw hl h
    exact absurd h id
  | succ N ih =>
    intro ga y2 y3 H locs ls hw hl h
    unfold wp_Arr_fill_5 at h
    refine lv_iload_n hx hb d_Arr_fill_5 rfl (lv_at hl 2 rfl) ?_
    refine lv_iload_n hx hb d_Arr_fill_6 rfl (lv_at hl 3 rfl) ?_
    refine lv_icmp_ge (tgt := 20) hx hb d_Arr_fill_7 (by decide) (fun c2 => ?_) (fun c2 => ?_)
    · have h := h.1 c2
      exact retV (out := fun u => [e_ar a n cI 18 u]) (u := ga) E hr hlk hw h d_Arr_fill_20
    · have h := h.2 c2
      refine lv_aload_n hx hb d_Arr_fill_10 rfl (lv_at hl 0 rfl) ?_
      refine lv_iload_n hx hb d_Arr_fill_11 rfl (lv_at hl 2 rfl) ?_
      refine lv_iload_n hx hb d_Arr_fill_12 rfl (lv_at hl 1 rfl) ?_
      obtain ⟨b3, h⟩ := h
      obtain ⟨f4, ef4⟩ : ∃ z : Nat → Int32, z = upd ga (y2 : Int32).toNatClampNeg x1 := ⟨_, rfl⟩
      have h := h f4 ef4
      refine kast (ws' := [e_ar a n cI 18 f4]) E hw 0 rfl b3 (by rw [ef4]; rfl) d_Arr_fill_13 (fun H locs hw => ?_)
      obtain ⟨z5, ez5⟩ : ∃ z : Int32, z = y2 + 1 := ⟨_, rfl⟩
      have h := h z5 ez5
      refine lv_iinc (v := z5) (lv' := [(2, .int z5), (0, .ref (a 18)), (1, .int x1), (3, .int y3)]) hx hb d_Arr_fill_14 hl (k := 2) rfl (by rw [ez5]; exact congrArg (y2 + ·) (by decide)) (by decide) rfl (fun ls hl => ?_)
      refine lv_goto (tgt := 5) hx hb d_Arr_fill_17 (by decide) ?_
      exact ih f4 z5 y3 _ _ ls hw (lv_sub hl [1, 2, 0, 3] rfl) h
set_option maxHeartbeats 2000000 in
set_option maxRecDepth 20000 in
theorem c_Arr_fill {l : Launch} {dC : Nat → ClassId} {dI : Nat → Nat → Nat} {cI : ClassId} {tb a n : Nat → Nat} {ga : Nat → Int32} {x1 : Int32} {post : ((Nat → Int32)) → Prop} (h : wp_Arr_fill n ga x1 post) : CtV classes dC dI cI tb l y_Arr_fill prog_11_method_103_code 4 ({ frames := 0, cells := 0, slots := 0, locals := 0 }) [.ref (a 18), .int x1] [e_ar a n cI 18 ga] ((Nat → Int32)) (fun u => [e_ar a n cI 18 u]) post := by
  refine startV (by decide) (Nat.le_of_ble_eq_true rfl) ?_
  intro p e s m below meth c ls E hr hlk hnm hl hw
  have hl : lv_has ls 4 [(0, .ref (a 18)), (1, .int x1)] := hl
  generalize va_A [e_ar a n cI 18 ga] s.heap.size = A at hw ⊢
  obtain ⟨hx, hb, hml, hown, hts⟩ := id E
  unfold wp_Arr_fill at h
  refine lv_iconst (v := 0) hx hb d_Arr_fill_0 (by decide) ?_
  refine lv_istore_n (lv' := [(2, .int 0), (0, .ref (a 18)), (1, .int x1)]) hx hb d_Arr_fill_1 rfl hl (by decide) rfl (fun ls hl => ?_)
  refine lv_aload_n hx hb d_Arr_fill_2 rfl (lv_at hl 1 rfl) ?_
  refine kalen E hw 0 rfl d_Arr_fill_3 ?_
  refine lv_topi (fun z1 ez1 => ?_)
  have h := h z1 ez1
  refine lv_istore_n (lv' := [(3, .int z1), (2, .int 0), (0, .ref (a 18)), (1, .int x1)]) hx hb d_Arr_fill_4 rfl hl (by decide) rfl (fun ls hl => ?_)
  obtain ⟨N6, h⟩ := h
  exact s_Arr_fill_5 (a := a) (n := n) (tb := tb) E hr hlk  N6 ga 0 z1 _ _ ls hw (lv_sub hl [2, 3, 1, 0] rfl) h
-- PicturePacker$RunFinder.restart()V
theorem d_Fin_restart_0 : decode prog_7_method_2_code 0 = .ok (.aload_n 0, 1) := by decide +kernel
theorem d_Fin_restart_1 : decode prog_7_method_2_code 1 = .ok (.getfield 15, 3) := by decide +kernel
theorem d_Fin_restart_4 : decode prog_7_method_2_code 4 = .ok (.iconst (-1), 1) := by decide +kernel
theorem d_Fin_restart_5 : decode prog_7_method_2_code 5 = .ok (.invokestatic 21, 3) := by decide +kernel
theorem d_Fin_restart_8 : decode prog_7_method_2_code 8 = .ok (.aload_n 0, 1) := by decide +kernel
theorem d_Fin_restart_9 : decode prog_7_method_2_code 9 = .ok (.iconst 0, 1) := by decide +kernel
theorem d_Fin_restart_10 : decode prog_7_method_2_code 10 = .ok (.putfield 27, 3) := by decide +kernel
theorem d_Fin_restart_13 : decode prog_7_method_2_code 13 = .ok (.return_, 1) := by decide +kernel
abbrev y_Fin_restart : MethodName := ⟨"PicturePacker$RunFinder", "restart", "()V"⟩
def wp_Fin_restart (n : Nat → Nat) (Fin_chained : Int32) (nw : Nat → Int32) (post : Int32 × (Nat → Int32) → Prop) : Prop := wp_Arr_fill (fun _ => n 13) nw ((-1)) (fun u1 => post (0, u1))
set_option maxHeartbeats 2000000 in
set_option maxRecDepth 20000 in
theorem c_Fin_restart {l : Launch} {dC : Nat → ClassId} {dI : Nat → Nat → Nat} {cI : ClassId} {tb a n : Nat → Nat} {Fin_chained : Int32} {Fin_length : Int32} {Fin_distance : Int32} {nw : Nat → Int32} {post : Int32 × (Nat → Int32) → Prop} (h : wp_Fin_restart n Fin_chained nw post) : CtV classes dC dI cI tb l y_Fin_restart prog_7_method_2_code 1 ({ frames := 1, cells := 0, slots := 0, locals := 23 }) [.ref (a 6)] [e_Fin a Fin_chained Fin_length Fin_distance, e_ar a n cI 13 nw] (Int32 × (Nat → Int32)) (fun u => [e_Fin a u.1 Fin_length Fin_distance, e_ar a n cI 13 u.2]) post := by
  refine startV (by decide) (Nat.le_of_ble_eq_true rfl) ?_
  intro p e s m below meth c ls E hr hlk hnm hl hw
  have hl : lv_has ls 1 [(0, .ref (a 6))] := hl
  generalize va_A [e_Fin a Fin_chained Fin_length Fin_distance, e_ar a n cI 13 nw] s.heap.size = A at hw ⊢
  obtain ⟨hx, hb, hml, hown, hts⟩ := id E
  unfold wp_Fin_restart at h
  refine lv_aload_n hx hb d_Fin_restart_0 rfl (lv_at hl 0 rfl) ?_
  refine kget (v := .ref (a 13)) (T := F_Fin) E hw in_Fin rfl 0 1 rfl (by decide) tw169 rfl d_Fin_restart_1 ?_
  refine lv_iconst (v := (-1)) hx hb d_Fin_restart_4 (by decide) ?_
  refine kSv (y := y_Arr_fill) (ws' := fun u1 => [e_Fin a Fin_chained Fin_length Fin_distance, e_ar a n cI 13 u1]) (wr := [e_Fin a Fin_chained Fin_length Fin_distance]) (As := [.ref (a 13), .int ((-1))]) (rest := []) E hw (c_Arr_fill (l := l) (dC := dC) (dI := dI) (cI := cI) (tb := tb) (a := fun _ => a 13) (n := fun _ => n 13) (ga := nw) (x1 := (-1)) h) tw347 tw93 tw39 tw94 2 (by decide) ⟨Nat.le_of_ble_eq_true rfl, Nat.le_of_ble_eq_true rfl⟩ ⟨Nat.le_of_ble_eq_true rfl, Nat.le_of_ble_eq_true rfl⟩ ⟨rfl, rfl⟩ [1] [0] [0, 1] rfl rfl rfl rfl (by decide) rfl (fun _ => rfl) hl.1 rfl rfl (Nat.le_of_ble_eq_true rfl) d_Fin_restart_5 (fun u1 H locs h hw => ?_)
  refine lv_aload_n hx hb d_Fin_restart_8 rfl (lv_at hl 0 rfl) ?_
  refine lv_iconst (v := 0) hx hb d_Fin_restart_9 (by decide) ?_
  refine kput (v := .int 0) (ty := .int) (T := F_Fin) (ws' := [e_Fin a 0 Fin_length Fin_distance, e_ar a n cI 13 u1]) E hw in_Fin t_Fin t_Fin_ok n_Fin rfl 0 3 rfl (by decide) tw171 rfl rfl rfl rfl (Nat.le_of_ble_eq_true rfl) rfl d_Fin_restart_10 (fun H locs hw => ?_)
  exact retV (out := fun u => [e_Fin a u.1 Fin_length Fin_distance, e_ar a n cI 13 u.2]) (u := (0, u1)) E hr hlk hw h d_Fin_restart_13
-- PicturePacker$RunFinder.mark(I)I
theorem d_Fin_mark_0 : decode prog_7_method_5_code 0 = .ok (.iload_n 1, 1) := by decide +kernel
theorem d_Fin_mark_1 : decode prog_7_method_5_code 1 = .ok (.ifCond .lt 14, 3) := by decide +kernel
theorem d_Fin_mark_4 : decode prog_7_method_5_code 4 = .ok (.iload_n 1, 1) := by decide +kernel
theorem d_Fin_mark_5 : decode prog_7_method_5_code 5 = .ok (.iconst 3, 1) := by decide +kernel
theorem d_Fin_mark_6 : decode prog_7_method_5_code 6 = .ok (.iadd, 1) := by decide +kernel
theorem d_Fin_mark_7 : decode prog_7_method_5_code 7 = .ok (.aload_n 0, 1) := by decide +kernel
theorem d_Fin_mark_8 : decode prog_7_method_5_code 8 = .ok (.getfield 9, 3) := by decide +kernel
theorem d_Fin_mark_11 : decode prog_7_method_5_code 11 = .ok (.arraylength, 1) := by decide +kernel
theorem d_Fin_mark_12 : decode prog_7_method_5_code 12 = .ok (.if_icmp .le 5, 3) := by decide +kernel
theorem d_Fin_mark_15 : decode prog_7_method_5_code 15 = .ok (.iconst 0, 1) := by decide +kernel
theorem d_Fin_mark_16 : decode prog_7_method_5_code 16 = .ok (.ireturn, 1) := by decide +kernel
theorem d_Fin_mark_17 : decode prog_7_method_5_code 17 = .ok (.aload_n 0, 1) := by decide +kernel
theorem d_Fin_mark_18 : decode prog_7_method_5_code 18 = .ok (.getfield 9, 3) := by decide +kernel
theorem d_Fin_mark_21 : decode prog_7_method_5_code 21 = .ok (.iload_n 1, 1) := by decide +kernel
theorem d_Fin_mark_22 : decode prog_7_method_5_code 22 = .ok (.iaload, 1) := by decide +kernel
theorem d_Fin_mark_23 : decode prog_7_method_5_code 23 = .ok (.bipush 33, 2) := by decide +kernel
theorem d_Fin_mark_25 : decode prog_7_method_5_code 25 = .ok (.imul, 1) := by decide +kernel
theorem d_Fin_mark_26 : decode prog_7_method_5_code 26 = .ok (.aload_n 0, 1) := by decide +kernel
theorem d_Fin_mark_27 : decode prog_7_method_5_code 27 = .ok (.getfield 9, 3) := by decide +kernel
theorem d_Fin_mark_30 : decode prog_7_method_5_code 30 = .ok (.iload_n 1, 1) := by decide +kernel
theorem d_Fin_mark_31 : decode prog_7_method_5_code 31 = .ok (.iconst 1, 1) := by decide +kernel
theorem d_Fin_mark_32 : decode prog_7_method_5_code 32 = .ok (.iadd, 1) := by decide +kernel
theorem d_Fin_mark_33 : decode prog_7_method_5_code 33 = .ok (.iaload, 1) := by decide +kernel
theorem d_Fin_mark_34 : decode prog_7_method_5_code 34 = .ok (.iadd, 1) := by decide +kernel
theorem d_Fin_mark_35 : decode prog_7_method_5_code 35 = .ok (.bipush 33, 2) := by decide +kernel
theorem d_Fin_mark_37 : decode prog_7_method_5_code 37 = .ok (.imul, 1) := by decide +kernel
theorem d_Fin_mark_38 : decode prog_7_method_5_code 38 = .ok (.aload_n 0, 1) := by decide +kernel
theorem d_Fin_mark_39 : decode prog_7_method_5_code 39 = .ok (.getfield 9, 3) := by decide +kernel
theorem d_Fin_mark_42 : decode prog_7_method_5_code 42 = .ok (.iload_n 1, 1) := by decide +kernel
theorem d_Fin_mark_43 : decode prog_7_method_5_code 43 = .ok (.iconst 2, 1) := by decide +kernel
theorem d_Fin_mark_44 : decode prog_7_method_5_code 44 = .ok (.iadd, 1) := by decide +kernel
theorem d_Fin_mark_45 : decode prog_7_method_5_code 45 = .ok (.iaload, 1) := by decide +kernel
theorem d_Fin_mark_46 : decode prog_7_method_5_code 46 = .ok (.iadd, 1) := by decide +kernel
theorem d_Fin_mark_47 : decode prog_7_method_5_code 47 = .ok (.sipush 1023, 3) := by decide +kernel
theorem d_Fin_mark_50 : decode prog_7_method_5_code 50 = .ok (.iand, 1) := by decide +kernel
theorem d_Fin_mark_51 : decode prog_7_method_5_code 51 = .ok (.ireturn, 1) := by decide +kernel
abbrev y_Fin_mark : MethodName := ⟨"PicturePacker$RunFinder", "mark", "(I)I"⟩
def wp_Fin_mark (n : Nat → Nat) (rb : Nat → Int32) (x1 : Int32) (post : Int32 → Unit → Prop) : Prop := ((x1 : Int32) < 0 → (post 0 ())) ∧ (¬ ((x1 : Int32) < 0) → (((x1 + 3 : Int32) ≤ (nI (n 9)) → (vp_in x1 (n 9) ∧ (vp_in (x1 + 1) (n 9) ∧ (vp_in (x1 + 2) (n 9) ∧ (post ((((((rb (x1 : Int32).toNatClampNeg) * 33) + (rb (x1 + 1 : Int32).toNatClampNeg)) * 33) + (rb (x1 + 2 : Int32).toNatClampNeg)) &&& 1023) ()))))) ∧ (¬ ((x1 + 3 : Int32) ≤ (nI (n 9))) → (post 0 ()))))
set_option maxHeartbeats 2000000 in
set_option maxRecDepth 20000 in
theorem c_Fin_mark {l : Launch} {dC : Nat → ClassId} {dI : Nat → Nat → Nat} {cI : ClassId} {tb a n : Nat → Nat} {Fin_chained : Int32} {Fin_length : Int32} {Fin_distance : Int32} {rb : Nat → Int32} {x1 : Int32} {post : Int32 → Unit → Prop} (h : wp_Fin_mark n rb x1 post) : CtI classes dC dI cI tb l y_Fin_mark prog_7_method_5_code 2 .int ({ frames := 0, cells := 0, slots := 0, locals := 0 }) [.ref (a 6), .int x1] [e_Fin a Fin_chained Fin_length Fin_distance, e_ar a n cI 9 rb] (Unit) (fun _ => [e_Fin a Fin_chained Fin_length Fin_distance, e_ar a n cI 9 rb]) post := by
  refine startI (by decide) (Nat.le_of_ble_eq_true rfl) ?_
  intro p e s m below meth c ls E hr hlk hnm hl hw
  have hl : lv_has ls 2 [(0, .ref (a 6)), (1, .int x1)] := hl
  generalize va_A [e_Fin a Fin_chained Fin_length Fin_distance, e_ar a n cI 9 rb] s.heap.size = A at hw ⊢
  obtain ⟨hx, hb, hml, hown, hts⟩ := id E
  unfold wp_Fin_mark at h
  refine lv_iload_n hx hb d_Fin_mark_0 rfl (lv_at hl 1 rfl) ?_
  refine lv_if_lt (tgt := 15) hx hb d_Fin_mark_1 (by decide) (fun c1 => ?_) (fun c1 => ?_)
  · have h := h.1 c1
    refine lv_iconst (v := 0) hx hb d_Fin_mark_15 (by decide) ?_
    exact retI (out := fun u => [e_Fin a Fin_chained Fin_length Fin_distance, e_ar a n cI 9 rb]) (u := ()) E hr hlk rfl hw h d_Fin_mark_16
  · have h := h.2 c1
    refine lv_iload_n hx hb d_Fin_mark_4 rfl (lv_at hl 1 rfl) ?_
    refine lv_iconst (v := 3) hx hb d_Fin_mark_5 (by decide) ?_
    refine lv_iadd hx hb d_Fin_mark_6 ?_
    refine lv_aload_n hx hb d_Fin_mark_7 rfl (lv_at hl 0 rfl) ?_
    refine kget (v := .ref (a 9)) (T := F_Fin) E hw in_Fin rfl 0 0 rfl (by decide) tw168 rfl d_Fin_mark_8 ?_
    refine kalen E hw 1 rfl d_Fin_mark_11 ?_
    refine lv_icmp_le (tgt := 17) hx hb d_Fin_mark_12 (by decide) (fun c2 => ?_) (fun c2 => ?_)
    · have h := h.1 c2
      refine lv_aload_n hx hb d_Fin_mark_17 rfl (lv_at hl 0 rfl) ?_
      refine kget (v := .ref (a 9)) (T := F_Fin) E hw in_Fin rfl 0 0 rfl (by decide) tw168 rfl d_Fin_mark_18 ?_
      refine lv_iload_n hx hb d_Fin_mark_21 rfl (lv_at hl 1 rfl) ?_
      obtain ⟨b3, h⟩ := h
      refine kald E hw 1 rfl b3 d_Fin_mark_22 ?_
      refine lv_bipush (v := 33) hx hb d_Fin_mark_23 (by decide) ?_
      refine lv_imul hx hb d_Fin_mark_25 ?_
      refine lv_aload_n hx hb d_Fin_mark_26 rfl (lv_at hl 0 rfl) ?_
      refine kget (v := .ref (a 9)) (T := F_Fin) E hw in_Fin rfl 0 0 rfl (by decide) tw168 rfl d_Fin_mark_27 ?_
      refine lv_iload_n hx hb d_Fin_mark_30 rfl (lv_at hl 1 rfl) ?_
      refine lv_iconst (v := 1) hx hb d_Fin_mark_31 (by decide) ?_
      refine lv_iadd hx hb d_Fin_mark_32 ?_
      obtain ⟨b4, h⟩ := h
      refine kald E hw 1 rfl b4 d_Fin_mark_33 ?_
      refine lv_iadd hx hb d_Fin_mark_34 ?_
      refine lv_bipush (v := 33) hx hb d_Fin_mark_35 (by decide) ?_
      refine lv_imul hx hb d_Fin_mark_37 ?_
      refine lv_aload_n hx hb d_Fin_mark_38 rfl (lv_at hl 0 rfl) ?_
      refine kget (v := .ref (a 9)) (T := F_Fin) E hw in_Fin rfl 0 0 rfl (by decide) tw168 rfl d_Fin_mark_39 ?_
      refine lv_iload_n hx hb d_Fin_mark_42 rfl (lv_at hl 1 rfl) ?_
      refine lv_iconst (v := 2) hx hb d_Fin_mark_43 (by decide) ?_
      refine lv_iadd hx hb d_Fin_mark_44 ?_
      obtain ⟨b5, h⟩ := h
      refine kald E hw 1 rfl b5 d_Fin_mark_45 ?_
      refine lv_iadd hx hb d_Fin_mark_46 ?_
      refine lv_sipush (v := 1023) hx hb d_Fin_mark_47 (by decide) ?_
      refine lv_iand hx hb d_Fin_mark_50 ?_
      exact retI (out := fun u => [e_Fin a Fin_chained Fin_length Fin_distance, e_ar a n cI 9 rb]) (u := ()) E hr hlk rfl hw h d_Fin_mark_51
    · have h := h.2 c2
      refine lv_iconst (v := 0) hx hb d_Fin_mark_15 (by decide) ?_
      exact retI (out := fun u => [e_Fin a Fin_chained Fin_length Fin_distance, e_ar a n cI 9 rb]) (u := ()) E hr hlk rfl hw h d_Fin_mark_16
-- PicturePacker$RunFinder.chainUpTo(I)V
theorem d_Fin_chainUpTo_0 : decode prog_7_method_4_code 0 = .ok (.aload_n 0, 1) := by decide +kernel
theorem d_Fin_chainUpTo_1 : decode prog_7_method_4_code 1 = .ok (.getfield 27, 3) := by decide +kernel
theorem d_Fin_chainUpTo_4 : decode prog_7_method_4_code 4 = .ok (.iload_n 1, 1) := by decide +kernel
theorem d_Fin_chainUpTo_5 : decode prog_7_method_4_code 5 = .ok (.if_icmp .ge 64, 3) := by decide +kernel
theorem d_Fin_chainUpTo_8 : decode prog_7_method_4_code 8 = .ok (.aload_n 0, 1) := by decide +kernel
theorem d_Fin_chainUpTo_9 : decode prog_7_method_4_code 9 = .ok (.getfield 27, 3) := by decide +kernel
theorem d_Fin_chainUpTo_12 : decode prog_7_method_4_code 12 = .ok (.iconst 3, 1) := by decide +kernel
theorem d_Fin_chainUpTo_13 : decode prog_7_method_4_code 13 = .ok (.iadd, 1) := by decide +kernel
theorem d_Fin_chainUpTo_14 : decode prog_7_method_4_code 14 = .ok (.aload_n 0, 1) := by decide +kernel
theorem d_Fin_chainUpTo_15 : decode prog_7_method_4_code 15 = .ok (.getfield 9, 3) := by decide +kernel
theorem d_Fin_chainUpTo_18 : decode prog_7_method_4_code 18 = .ok (.arraylength, 1) := by decide +kernel
theorem d_Fin_chainUpTo_19 : decode prog_7_method_4_code 19 = .ok (.if_icmp .gt 50, 3) := by decide +kernel
theorem d_Fin_chainUpTo_22 : decode prog_7_method_4_code 22 = .ok (.aload_n 0, 1) := by decide +kernel
theorem d_Fin_chainUpTo_23 : decode prog_7_method_4_code 23 = .ok (.aload_n 0, 1) := by decide +kernel
theorem d_Fin_chainUpTo_24 : decode prog_7_method_4_code 24 = .ok (.getfield 27, 3) := by decide +kernel
theorem d_Fin_chainUpTo_27 : decode prog_7_method_4_code 27 = .ok (.invokevirtual 47, 3) := by decide +kernel
theorem d_Fin_chainUpTo_30 : decode prog_7_method_4_code 30 = .ok (.istore_n 2, 1) := by decide +kernel
theorem d_Fin_chainUpTo_31 : decode prog_7_method_4_code 31 = .ok (.aload_n 0, 1) := by decide +kernel
theorem d_Fin_chainUpTo_32 : decode prog_7_method_4_code 32 = .ok (.getfield 18, 3) := by decide +kernel
theorem d_Fin_chainUpTo_35 : decode prog_7_method_4_code 35 = .ok (.aload_n 0, 1) := by decide +kernel
theorem d_Fin_chainUpTo_36 : decode prog_7_method_4_code 36 = .ok (.getfield 27, 3) := by decide +kernel
theorem d_Fin_chainUpTo_39 : decode prog_7_method_4_code 39 = .ok (.aload_n 0, 1) := by decide +kernel
theorem d_Fin_chainUpTo_40 : decode prog_7_method_4_code 40 = .ok (.getfield 15, 3) := by decide +kernel
theorem d_Fin_chainUpTo_43 : decode prog_7_method_4_code 43 = .ok (.iload_n 2, 1) := by decide +kernel
theorem d_Fin_chainUpTo_44 : decode prog_7_method_4_code 44 = .ok (.iaload, 1) := by decide +kernel
theorem d_Fin_chainUpTo_45 : decode prog_7_method_4_code 45 = .ok (.iastore, 1) := by decide +kernel
theorem d_Fin_chainUpTo_46 : decode prog_7_method_4_code 46 = .ok (.aload_n 0, 1) := by decide +kernel
theorem d_Fin_chainUpTo_47 : decode prog_7_method_4_code 47 = .ok (.getfield 15, 3) := by decide +kernel
theorem d_Fin_chainUpTo_50 : decode prog_7_method_4_code 50 = .ok (.iload_n 2, 1) := by decide +kernel
theorem d_Fin_chainUpTo_51 : decode prog_7_method_4_code 51 = .ok (.aload_n 0, 1) := by decide +kernel
theorem d_Fin_chainUpTo_52 : decode prog_7_method_4_code 52 = .ok (.getfield 27, 3) := by decide +kernel
theorem d_Fin_chainUpTo_55 : decode prog_7_method_4_code 55 = .ok (.iastore, 1) := by decide +kernel
theorem d_Fin_chainUpTo_56 : decode prog_7_method_4_code 56 = .ok (.aload_n 0, 1) := by decide +kernel
theorem d_Fin_chainUpTo_57 : decode prog_7_method_4_code 57 = .ok (.dup, 1) := by decide +kernel
theorem d_Fin_chainUpTo_58 : decode prog_7_method_4_code 58 = .ok (.getfield 27, 3) := by decide +kernel
theorem d_Fin_chainUpTo_61 : decode prog_7_method_4_code 61 = .ok (.iconst 1, 1) := by decide +kernel
theorem d_Fin_chainUpTo_62 : decode prog_7_method_4_code 62 = .ok (.iadd, 1) := by decide +kernel
theorem d_Fin_chainUpTo_63 : decode prog_7_method_4_code 63 = .ok (.putfield 27, 3) := by decide +kernel
theorem d_Fin_chainUpTo_66 : decode prog_7_method_4_code 66 = .ok (.goto (-66), 3) := by decide +kernel
theorem d_Fin_chainUpTo_69 : decode prog_7_method_4_code 69 = .ok (.return_, 1) := by decide +kernel
abbrev y_Fin_chainUpTo : MethodName := ⟨"PicturePacker$RunFinder", "chainUpTo", "(I)V"⟩
def wp_Fin_chainUpTo_0 (n : Nat → Nat) (rb : Nat → Int32) (x1 : Int32) (post : Int32 × (Nat → Int32) × (Nat → Int32) → Prop) : Nat → Int32 → (Nat → Int32) → (Nat → Int32) → Prop
  | 0 => fun _ _ _ => False
  | N + 1 => fun Fin_chained nw nx => ((x1 : Int32) ≤ Fin_chained → (post (Fin_chained, nw, nx))) ∧ (¬ ((x1 : Int32) ≤ Fin_chained) → (((nI (n 9) : Int32) < (Fin_chained + 3) → (post (Fin_chained, nw, nx))) ∧ (¬ ((nI (n 9) : Int32) < (Fin_chained + 3)) → (wp_Fin_mark n rb Fin_chained (fun r4 _ => vp_in r4 (n 13) ∧ (∀ z6 : Int32, z6 = (nw (r4 : Int32).toNatClampNeg) → (vp_in Fin_chained (n 14) ∧ (∀ f8 : Nat → Int32, f8 = upd nx (Fin_chained : Int32).toNatClampNeg z6 → (vp_in r4 (n 13) ∧ (∀ f10 : Nat → Int32, f10 = upd nw (r4 : Int32).toNatClampNeg Fin_chained → (∀ z11 : Int32, z11 = (Fin_chained + 1) → (wp_Fin_chainUpTo_0 n rb x1 post N z11 f10 f8))))))))))))
def wp_Fin_chainUpTo (n : Nat → Nat) (Fin_chained : Int32) (rb : Nat → Int32) (nw : Nat → Int32) (nx : Nat → Int32) (x1 : Int32) (post : Int32 × (Nat → Int32) × (Nat → Int32) → Prop) : Prop := ∃ N12 : Nat, wp_Fin_chainUpTo_0 n rb x1 post N12 Fin_chained nw nx
set_option maxHeartbeats 2000000 in
set_option maxRecDepth 20000 in
theorem s_Fin_chainUpTo_0 {l : Launch} {dC : Nat → ClassId} {dI : Nat → Nat → Nat} {cI : ClassId} {tb a n : Nat → Nat} {p : Program} {e : Env} {s : State} {m : MethodId} {args : Array Value} {below : List Frame} {meth : Method} {c : Code} {A : Nat → Prop} (E : CallFix p m c prog_7_method_4_code 3 s args TBL "PicturePacker$RunFinder") (hr : meth.sig.returnType = none) (hlk : meth.locks = false) {Fin_length : Int32} {Fin_distance : Int32} {rb : Nat → Int32} {x1 : Int32} {post : Int32 × (Nat → Int32) × (Nat → Int32) → Prop} : ∀ (N : Nat) (Fin_chained : Int32) (nw : Nat → Int32) (nx : Nat → Int32) (H : Heap) (locs : List Loc) (ls : Array Slot), Wl classes dC dI cI tb A s H locs [e_Fin a Fin_chained Fin_length Fin_distance, e_ar a n cI 9 rb, e_ar a n cI 13 nw, e_ar a n cI 14 nx] → lv_has ls 3 [(0, .ref (a 6)), (1, .int x1)] → wp_Fin_chainUpTo_0 n rb x1 post N Fin_chained nw nx → W p l e ({ frames := 1, cells := 0, slots := 0, locals := 21 }) s m args below meth c H locs 0 0 (MQ below (va_Qv post (fun u => End0 classes dC dI cI A [e_Fin a u.1 Fin_length Fin_distance, e_ar a n cI 9 rb, e_ar a n cI 13 u.2.1, e_ar a n cI 14 u.2.2]) A) args s 0 0 A) (F0 m 0 ls []) := by
  obtain ⟨hx, hb, hml, hown, hts⟩ := id E
  intro N
  induction N with
  | zero =>
    intro _ _ _ H locs ls hw hl h
    exact absurd h id
  | succ N ih =>
    intro Fin_chained nw nx H locs ls hw hl h
    unfold wp_Fin_chainUpTo_0 at h
    refine lv_aload_n hx hb d_Fin_chainUpTo_0 rfl (lv_at hl 0 rfl) ?_
    refine kget (v := .int Fin_chained) (T := F_Fin) E hw in_Fin rfl 0 3 rfl (by decide) tw171 rfl d_Fin_chainUpTo_1 ?_
    refine lv_iload_n hx hb d_Fin_chainUpTo_4 rfl (lv_at hl 1 rfl) ?_
    refine lv_icmp_ge (tgt := 69) hx hb d_Fin_chainUpTo_5 (by decide) (fun c1 => ?_) (fun c1 => ?_)
    · have h := h.1 c1
      exact retV (out := fun u => [e_Fin a u.1 Fin_length Fin_distance, e_ar a n cI 9 rb, e_ar a n cI 13 u.2.1, e_ar a n cI 14 u.2.2]) (u := (Fin_chained, nw, nx)) E hr hlk hw h d_Fin_chainUpTo_69
    · have h := h.2 c1
      refine lv_aload_n hx hb d_Fin_chainUpTo_8 rfl (lv_at hl 0 rfl) ?_
      refine kget (v := .int Fin_chained) (T := F_Fin) E hw in_Fin rfl 0 3 rfl (by decide) tw171 rfl d_Fin_chainUpTo_9 ?_
      refine lv_iconst (v := 3) hx hb d_Fin_chainUpTo_12 (by decide) ?_
      refine lv_iadd hx hb d_Fin_chainUpTo_13 ?_
      refine lv_aload_n hx hb d_Fin_chainUpTo_14 rfl (lv_at hl 0 rfl) ?_
      refine kget (v := .ref (a 9)) (T := F_Fin) E hw in_Fin rfl 0 0 rfl (by decide) tw168 rfl d_Fin_chainUpTo_15 ?_
      refine kalen E hw 1 rfl d_Fin_chainUpTo_18 ?_
      refine lv_icmp_gt (tgt := 69) hx hb d_Fin_chainUpTo_19 (by decide) (fun c2 => ?_) (fun c2 => ?_)
      · have h := h.1 c2
        exact retV (out := fun u => [e_Fin a u.1 Fin_length Fin_distance, e_ar a n cI 9 rb, e_ar a n cI 13 u.2.1, e_ar a n cI 14 u.2.2]) (u := (Fin_chained, nw, nx)) E hr hlk hw h d_Fin_chainUpTo_69
      · have h := h.2 c2
        refine lv_aload_n hx hb d_Fin_chainUpTo_22 rfl (lv_at hl 0 rfl) ?_
        refine lv_aload_n hx hb d_Fin_chainUpTo_23 rfl (lv_at hl 0 rfl) ?_
        refine kget (v := .int Fin_chained) (T := F_Fin) E hw in_Fin rfl 0 3 rfl (by decide) tw171 rfl d_Fin_chainUpTo_24 ?_
        refine kVi (y := y_Fin_mark) (ws' := fun _ => [e_Fin a Fin_chained Fin_length Fin_distance, e_ar a n cI 9 rb, e_ar a n cI 13 nw, e_ar a n cI 14 nx]) (wr := [e_ar a n cI 13 nw, e_ar a n cI 14 nx]) (As := [.int Fin_chained]) (rest := []) E hw (c_Fin_mark (l := l) (dC := dC) (dI := dI) (cI := cI) (tb := tb) (a := a) (n := n) (Fin_chained := Fin_chained) (Fin_length := Fin_length) (Fin_distance := Fin_distance) (rb := rb) (x1 := Fin_chained) h) tw368 tw370 tw8 tw43 tw371 1 (by decide) ⟨Nat.le_of_ble_eq_true rfl, Nat.le_of_ble_eq_true rfl⟩ ⟨Nat.le_of_ble_eq_true rfl, Nat.le_of_ble_eq_true rfl⟩ ⟨rfl, rfl⟩ rfl rfl 0 rfl [0, 1] [2, 3] [2, 3, 0, 1] rfl rfl rfl rfl (by decide) rfl (fun _ => rfl) hl.1 rfl rfl (Nat.le_of_ble_eq_true rfl) d_Fin_chainUpTo_27 (fun r4 u3 H locs h hw => ?_)
        refine lv_istore_n (lv' := [(2, .int r4), (0, .ref (a 6)), (1, .int x1)]) hx hb d_Fin_chainUpTo_30 rfl hl (by decide) rfl (fun ls hl => ?_)
        refine lv_aload_n hx hb d_Fin_chainUpTo_31 rfl (lv_at hl 1 rfl) ?_
        refine kget (v := .ref (a 14)) (T := F_Fin) E hw in_Fin rfl 0 2 rfl (by decide) tw170 rfl d_Fin_chainUpTo_32 ?_
        refine lv_aload_n hx hb d_Fin_chainUpTo_35 rfl (lv_at hl 1 rfl) ?_
        refine kget (v := .int Fin_chained) (T := F_Fin) E hw in_Fin rfl 0 3 rfl (by decide) tw171 rfl d_Fin_chainUpTo_36 ?_
        refine lv_aload_n hx hb d_Fin_chainUpTo_39 rfl (lv_at hl 1 rfl) ?_
        refine kget (v := .ref (a 13)) (T := F_Fin) E hw in_Fin rfl 0 1 rfl (by decide) tw169 rfl d_Fin_chainUpTo_40 ?_
        refine lv_iload_n hx hb d_Fin_chainUpTo_43 rfl (lv_at hl 0 rfl) ?_
        obtain ⟨b5, h⟩ := h
        refine kald E hw 2 rfl b5 d_Fin_chainUpTo_44 ?_
        refine lv_topi (fun z6 ez6 => ?_)
        have h := h z6 ez6
        obtain ⟨b7, h⟩ := h
        obtain ⟨f8, ef8⟩ : ∃ z : Nat → Int32, z = upd nx (Fin_chained : Int32).toNatClampNeg z6 := ⟨_, rfl⟩
        have h := h f8 ef8
        refine kast (ws' := [e_Fin a Fin_chained Fin_length Fin_distance, e_ar a n cI 9 rb, e_ar a n cI 13 nw, e_ar a n cI 14 f8]) E hw 3 rfl b7 (by rw [ef8]; rfl) d_Fin_chainUpTo_45 (fun H locs hw => ?_)
        refine lv_aload_n hx hb d_Fin_chainUpTo_46 rfl (lv_at hl 1 rfl) ?_
        refine kget (v := .ref (a 13)) (T := F_Fin) E hw in_Fin rfl 0 1 rfl (by decide) tw169 rfl d_Fin_chainUpTo_47 ?_
        refine lv_iload_n hx hb d_Fin_chainUpTo_50 rfl (lv_at hl 0 rfl) ?_
        refine lv_aload_n hx hb d_Fin_chainUpTo_51 rfl (lv_at hl 1 rfl) ?_
        refine kget (v := .int Fin_chained) (T := F_Fin) E hw in_Fin rfl 0 3 rfl (by decide) tw171 rfl d_Fin_chainUpTo_52 ?_
        obtain ⟨b9, h⟩ := h
        obtain ⟨f10, ef10⟩ : ∃ z : Nat → Int32, z = upd nw (r4 : Int32).toNatClampNeg Fin_chained := ⟨_, rfl⟩
        have h := h f10 ef10
        refine kast (ws' := [e_Fin a Fin_chained Fin_length Fin_distance, e_ar a n cI 9 rb, e_ar a n cI 13 f10, e_ar a n cI 14 f8]) E hw 2 rfl b9 (by rw [ef10]; rfl) d_Fin_chainUpTo_55 (fun H locs hw => ?_)
        refine lv_aload_n hx hb d_Fin_chainUpTo_56 rfl (lv_at hl 1 rfl) ?_
        refine lv_dup hx hb d_Fin_chainUpTo_57 rfl ?_
        refine kget (v := .int Fin_chained) (T := F_Fin) E hw in_Fin rfl 0 3 rfl (by decide) tw171 rfl d_Fin_chainUpTo_58 ?_
        refine lv_iconst (v := 1) hx hb d_Fin_chainUpTo_61 (by decide) ?_
        refine lv_iadd hx hb d_Fin_chainUpTo_62 ?_
        refine lv_topi (fun z11 ez11 => ?_)
        have h := h z11 ez11
        refine kput (v := .int z11) (ty := .int) (T := F_Fin) (ws' := [e_Fin a z11 Fin_length Fin_distance, e_ar a n cI 9 rb, e_ar a n cI 13 f10, e_ar a n cI 14 f8]) E hw in_Fin t_Fin t_Fin_ok n_Fin rfl 0 3 rfl (by decide) tw171 rfl rfl rfl rfl (Nat.le_of_ble_eq_true rfl) rfl d_Fin_chainUpTo_63 (fun H locs hw => ?_)
        refine lv_goto (tgt := 0) hx hb d_Fin_chainUpTo_66 (by decide) ?_
        exact ih z11 f10 f8 _ _ ls hw (lv_sub hl [1, 2] rfl) h
set_option maxHeartbeats 2000000 in
set_option maxRecDepth 20000 in
theorem c_Fin_chainUpTo {l : Launch} {dC : Nat → ClassId} {dI : Nat → Nat → Nat} {cI : ClassId} {tb a n : Nat → Nat} {Fin_chained : Int32} {Fin_length : Int32} {Fin_distance : Int32} {rb : Nat → Int32} {nw : Nat → Int32} {nx : Nat → Int32} {x1 : Int32} {post : Int32 × (Nat → Int32) × (Nat → Int32) → Prop} (h : wp_Fin_chainUpTo n Fin_chained rb nw nx x1 post) : CtV classes dC dI cI tb l y_Fin_chainUpTo prog_7_method_4_code 3 ({ frames := 1, cells := 0, slots := 0, locals := 21 }) [.ref (a 6), .int x1] [e_Fin a Fin_chained Fin_length Fin_distance, e_ar a n cI 9 rb, e_ar a n cI 13 nw, e_ar a n cI 14 nx] (Int32 × (Nat → Int32) × (Nat → Int32)) (fun u => [e_Fin a u.1 Fin_length Fin_distance, e_ar a n cI 9 rb, e_ar a n cI 13 u.2.1, e_ar a n cI 14 u.2.2]) post := by
  refine startV (by decide) (Nat.le_of_ble_eq_true rfl) ?_
  intro p e s m below meth c ls E hr hlk hnm hl hw
  have hl : lv_has ls 3 [(0, .ref (a 6)), (1, .int x1)] := hl
  generalize va_A [e_Fin a Fin_chained Fin_length Fin_distance, e_ar a n cI 9 rb, e_ar a n cI 13 nw, e_ar a n cI 14 nx] s.heap.size = A at hw ⊢
  obtain ⟨hx, hb, hml, hown, hts⟩ := id E
  unfold wp_Fin_chainUpTo at h
  obtain ⟨N12, h⟩ := h
  exact s_Fin_chainUpTo_0 (a := a) (n := n) (tb := tb) E hr hlk  N12 Fin_chained nw nx _ _ ls hw (lv_sub hl [0, 1] rfl) h
-- PicturePacker$RunFinder.sameBytes(III)I
theorem d_Fin_sameBytes_0 : decode prog_7_method_6_code 0 = .ok (.iconst 0, 1) := by decide +kernel
theorem d_Fin_sameBytes_1 : decode prog_7_method_6_code 1 = .ok (.istore 4, 2) := by decide +kernel
theorem d_Fin_sameBytes_3 : decode prog_7_method_6_code 3 = .ok (.iload 4, 2) := by decide +kernel
theorem d_Fin_sameBytes_5 : decode prog_7_method_6_code 5 = .ok (.iload_n 3, 1) := by decide +kernel
theorem d_Fin_sameBytes_6 : decode prog_7_method_6_code 6 = .ok (.if_icmp .ge 42, 3) := by decide +kernel
theorem d_Fin_sameBytes_9 : decode prog_7_method_6_code 9 = .ok (.iload_n 2, 1) := by decide +kernel
theorem d_Fin_sameBytes_10 : decode prog_7_method_6_code 10 = .ok (.iload 4, 2) := by decide +kernel
theorem d_Fin_sameBytes_12 : decode prog_7_method_6_code 12 = .ok (.iadd, 1) := by decide +kernel
theorem d_Fin_sameBytes_13 : decode prog_7_method_6_code 13 = .ok (.aload_n 0, 1) := by decide +kernel
theorem d_Fin_sameBytes_14 : decode prog_7_method_6_code 14 = .ok (.getfield 9, 3) := by decide +kernel
theorem d_Fin_sameBytes_17 : decode prog_7_method_6_code 17 = .ok (.arraylength, 1) := by decide +kernel
theorem d_Fin_sameBytes_18 : decode prog_7_method_6_code 18 = .ok (.if_icmp .ge 30, 3) := by decide +kernel
theorem d_Fin_sameBytes_21 : decode prog_7_method_6_code 21 = .ok (.aload_n 0, 1) := by decide +kernel
theorem d_Fin_sameBytes_22 : decode prog_7_method_6_code 22 = .ok (.getfield 9, 3) := by decide +kernel
theorem d_Fin_sameBytes_25 : decode prog_7_method_6_code 25 = .ok (.iload_n 1, 1) := by decide +kernel
theorem d_Fin_sameBytes_26 : decode prog_7_method_6_code 26 = .ok (.iload 4, 2) := by decide +kernel
theorem d_Fin_sameBytes_28 : decode prog_7_method_6_code 28 = .ok (.iadd, 1) := by decide +kernel
theorem d_Fin_sameBytes_29 : decode prog_7_method_6_code 29 = .ok (.iaload, 1) := by decide +kernel
theorem d_Fin_sameBytes_30 : decode prog_7_method_6_code 30 = .ok (.aload_n 0, 1) := by decide +kernel
theorem d_Fin_sameBytes_31 : decode prog_7_method_6_code 31 = .ok (.getfield 9, 3) := by decide +kernel
theorem d_Fin_sameBytes_34 : decode prog_7_method_6_code 34 = .ok (.iload_n 2, 1) := by decide +kernel
theorem d_Fin_sameBytes_35 : decode prog_7_method_6_code 35 = .ok (.iload 4, 2) := by decide +kernel
theorem d_Fin_sameBytes_37 : decode prog_7_method_6_code 37 = .ok (.iadd, 1) := by decide +kernel
theorem d_Fin_sameBytes_38 : decode prog_7_method_6_code 38 = .ok (.iaload, 1) := by decide +kernel
theorem d_Fin_sameBytes_39 : decode prog_7_method_6_code 39 = .ok (.if_icmp .ne 9, 3) := by decide +kernel
theorem d_Fin_sameBytes_42 : decode prog_7_method_6_code 42 = .ok (.iinc 4 1, 3) := by decide +kernel
theorem d_Fin_sameBytes_45 : decode prog_7_method_6_code 45 = .ok (.goto (-42), 3) := by decide +kernel
theorem d_Fin_sameBytes_48 : decode prog_7_method_6_code 48 = .ok (.iload 4, 2) := by decide +kernel
theorem d_Fin_sameBytes_50 : decode prog_7_method_6_code 50 = .ok (.ireturn, 1) := by decide +kernel
abbrev y_Fin_sameBytes : MethodName := ⟨"PicturePacker$RunFinder", "sameBytes", "(III)I"⟩
def wp_Fin_sameBytes_3 (n : Nat → Nat) (rb : Nat → Int32) (x1 : Int32) (x2 : Int32) (x3 : Int32) (post : Int32 → Unit → Prop) : Nat → Int32 → Prop
  | 0 => fun _ => False
  | N + 1 => fun y4 => ((x3 : Int32) ≤ y4 → (post y4 ())) ∧ (¬ ((x3 : Int32) ≤ y4) → (((nI (n 9) : Int32) ≤ (x2 + y4) → (post y4 ())) ∧ (¬ ((nI (n 9) : Int32) ≤ (x2 + y4)) → (vp_in (x1 + y4) (n 9) ∧ (vp_in (x2 + y4) (n 9) ∧ ((¬ (rb (x1 + y4 : Int32).toNatClampNeg : Int32) = (rb (x2 + y4 : Int32).toNatClampNeg) → (post y4 ())) ∧ ((rb (x1 + y4 : Int32).toNatClampNeg : Int32) = (rb (x2 + y4 : Int32).toNatClampNeg) → (∀ z6 : Int32, z6 = (y4 + 1) → (wp_Fin_sameBytes_3 n rb x1 x2 x3 post N z6)))))))))
def wp_Fin_sameBytes (n : Nat → Nat) (rb : Nat → Int32) (x1 : Int32) (x2 : Int32) (x3 : Int32) (post : Int32 → Unit → Prop) : Prop := ∃ N7 : Nat, wp_Fin_sameBytes_3 n rb x1 x2 x3 post N7 0
set_option maxHeartbeats 2000000 in
set_option maxRecDepth 20000 in
theorem s_Fin_sameBytes_3 {l : Launch} {dC : Nat → ClassId} {dI : Nat → Nat → Nat} {cI : ClassId} {tb a n : Nat → Nat} {p : Program} {e : Env} {s : State} {m : MethodId} {args : Array Value} {below : List Frame} {meth : Method} {c : Code} {A : Nat → Prop} (E : CallFix p m c prog_7_method_6_code 5 s args TBL "PicturePacker$RunFinder") (hr : meth.sig.returnType = some .int) (hlk : meth.locks = false) {Fin_chained : Int32} {Fin_length : Int32} {Fin_distance : Int32} {rb : Nat → Int32} {x1 : Int32} {x2 : Int32} {x3 : Int32} {post : Int32 → Unit → Prop} : ∀ (N : Nat) (y4 : Int32) (H : Heap) (locs : List Loc) (ls : Array Slot), Wl classes dC dI cI tb A s H locs [e_Fin a Fin_chained Fin_length Fin_distance, e_ar a n cI 9 rb] → lv_has ls 5 [(0, .ref (a 6)), (1, .int x1), (2, .int x2), (3, .int x3), (4, .int y4)] → wp_Fin_sameBytes_3 n rb x1 x2 x3 post N y4 → W p l e ({ frames := 0, cells := 0, slots := 0, locals := 0 }) s m args below meth c H locs 0 0 (MQ below (va_Qi post (fun u => End0 classes dC dI cI A [e_Fin a Fin_chained Fin_length Fin_distance, e_ar a n cI 9 rb]) A) args s 0 0 A) (F0 m 3 ls []) := by
  obtain ⟨hx, hb, hml, hown, hts⟩ := id E
  intro N
  induction N with
  | zero =>
    intro _ H locs ls hw hl h
    exact absurd h id
  | succ N ih =>
    intro y4 H locs ls hw hl h
    unfold wp_Fin_sameBytes_3 at h
    refine lv_iload hx hb d_Fin_sameBytes_3 (lv_at hl 4 rfl) ?_
    refine lv_iload_n hx hb d_Fin_sameBytes_5 rfl (lv_at hl 3 rfl) ?_
    refine lv_icmp_ge (tgt := 48) hx hb d_Fin_sameBytes_6 (by decide) (fun c1 => ?_) (fun c1 => ?_)
    · have h := h.1 c1
      refine lv_iload hx hb d_Fin_sameBytes_48 (lv_at hl 4 rfl) ?_
      exact retI (out := fun u => [e_Fin a Fin_chained Fin_length Fin_distance, e_ar a n cI 9 rb]) (u := ()) E hr hlk rfl hw h d_Fin_sameBytes_50
    · have h := h.2 c1
      refine lv_iload_n hx hb d_Fin_sameBytes_9 rfl (lv_at hl 2 rfl) ?_
      refine lv_iload hx hb d_Fin_sameBytes_10 (lv_at hl 4 rfl) ?_
      refine lv_iadd hx hb d_Fin_sameBytes_12 ?_
      refine lv_aload_n hx hb d_Fin_sameBytes_13 rfl (lv_at hl 0 rfl) ?_
      refine kget (v := .ref (a 9)) (T := F_Fin) E hw in_Fin rfl 0 0 rfl (by decide) tw168 rfl d_Fin_sameBytes_14 ?_
      refine kalen E hw 1 rfl d_Fin_sameBytes_17 ?_
      refine lv_icmp_ge (tgt := 48) hx hb d_Fin_sameBytes_18 (by decide) (fun c2 => ?_) (fun c2 => ?_)
      · have h := h.1 c2
        refine lv_iload hx hb d_Fin_sameBytes_48 (lv_at hl 4 rfl) ?_
        exact retI (out := fun u => [e_Fin a Fin_chained Fin_length Fin_distance, e_ar a n cI 9 rb]) (u := ()) E hr hlk rfl hw h d_Fin_sameBytes_50
      · have h := h.2 c2
        refine lv_aload_n hx hb d_Fin_sameBytes_21 rfl (lv_at hl 0 rfl) ?_
        refine kget (v := .ref (a 9)) (T := F_Fin) E hw in_Fin rfl 0 0 rfl (by decide) tw168 rfl d_Fin_sameBytes_22 ?_
        refine lv_iload_n hx hb d_Fin_sameBytes_25 rfl (lv_at hl 1 rfl) ?_
        refine lv_iload hx hb d_Fin_sameBytes_26 (lv_at hl 4 rfl) ?_
        refine lv_iadd hx hb d_Fin_sameBytes_28 ?_
        obtain ⟨b3, h⟩ := h
        refine kald E hw 1 rfl b3 d_Fin_sameBytes_29 ?_
        refine lv_aload_n hx hb d_Fin_sameBytes_30 rfl (lv_at hl 0 rfl) ?_
        refine kget (v := .ref (a 9)) (T := F_Fin) E hw in_Fin rfl 0 0 rfl (by decide) tw168 rfl d_Fin_sameBytes_31 ?_
        refine lv_iload_n hx hb d_Fin_sameBytes_34 rfl (lv_at hl 2 rfl) ?_
        refine lv_iload hx hb d_Fin_sameBytes_35 (lv_at hl 4 rfl) ?_
        refine lv_iadd hx hb d_Fin_sameBytes_37 ?_
        obtain ⟨b4, h⟩ := h
        refine kald E hw 1 rfl b4 d_Fin_sameBytes_38 ?_
        refine lv_icmp_ne (tgt := 48) hx hb d_Fin_sameBytes_39 (by decide) (fun c5 => ?_) (fun c5 => ?_)
        · have h := h.1 c5
          refine lv_iload hx hb d_Fin_sameBytes_48 (lv_at hl 4 rfl) ?_
          exact retI (out := fun u => [e_Fin a Fin_chained Fin_length Fin_distance, e_ar a n cI 9 rb]) (u := ()) E hr hlk rfl hw h d_Fin_sameBytes_50
        · have h := h.2 c5
          obtain ⟨z6, ez6⟩ : ∃ z : Int32, z = y4 + 1 := ⟨_, rfl⟩
          have h := h z6 ez6
          refine lv_iinc (v := z6) (lv' := [(4, .int z6), (0, .ref (a 6)), (1, .int x1), (2, .int x2), (3, .int x3)]) hx hb d_Fin_sameBytes_42 hl (k := 4) rfl (by rw [ez6]; exact congrArg (y4 + ·) (by decide)) (by decide) rfl (fun ls hl => ?_)
          refine lv_goto (tgt := 3) hx hb d_Fin_sameBytes_45 (by decide) ?_
          exact ih z6 _ _ ls hw (lv_sub hl [1, 2, 3, 4, 0] rfl) h
set_option maxHeartbeats 2000000 in
set_option maxRecDepth 20000 in
theorem c_Fin_sameBytes {l : Launch} {dC : Nat → ClassId} {dI : Nat → Nat → Nat} {cI : ClassId} {tb a n : Nat → Nat} {Fin_chained : Int32} {Fin_length : Int32} {Fin_distance : Int32} {rb : Nat → Int32} {x1 : Int32} {x2 : Int32} {x3 : Int32} {post : Int32 → Unit → Prop} (h : wp_Fin_sameBytes n rb x1 x2 x3 post) : CtI classes dC dI cI tb l y_Fin_sameBytes prog_7_method_6_code 5 .int ({ frames := 0, cells := 0, slots := 0, locals := 0 }) [.ref (a 6), .int x1, .int x2, .int x3] [e_Fin a Fin_chained Fin_length Fin_distance, e_ar a n cI 9 rb] (Unit) (fun _ => [e_Fin a Fin_chained Fin_length Fin_distance, e_ar a n cI 9 rb]) post := by
  refine startI (by decide) (Nat.le_of_ble_eq_true rfl) ?_
  intro p e s m below meth c ls E hr hlk hnm hl hw
  have hl : lv_has ls 5 [(0, .ref (a 6)), (1, .int x1), (2, .int x2), (3, .int x3)] := hl
  generalize va_A [e_Fin a Fin_chained Fin_length Fin_distance, e_ar a n cI 9 rb] s.heap.size = A at hw ⊢
  obtain ⟨hx, hb, hml, hown, hts⟩ := id E
  unfold wp_Fin_sameBytes at h
  refine lv_iconst (v := 0) hx hb d_Fin_sameBytes_0 (by decide) ?_
  refine lv_istore (lv' := [(4, .int 0), (0, .ref (a 6)), (1, .int x1), (2, .int x2), (3, .int x3)]) hx hb d_Fin_sameBytes_1 hl (by decide) rfl (fun ls hl => ?_)
  obtain ⟨N7, h⟩ := h
  exact s_Fin_sameBytes_3 (a := a) (n := n) (tb := tb) E hr hlk  N7 0 _ _ ls hw (lv_sub hl [1, 2, 3, 4, 0] rfl) h
-- PicturePacker$RunFinder.lookFrom(I)V
theorem d_Fin_lookFrom_0 : decode prog_7_method_3_code 0 = .ok (.aload_n 0, 1) := by decide +kernel
theorem d_Fin_lookFrom_1 : decode prog_7_method_3_code 1 = .ok (.iconst 0, 1) := by decide +kernel
theorem d_Fin_lookFrom_2 : decode prog_7_method_3_code 2 = .ok (.putfield 31, 3) := by decide +kernel
theorem d_Fin_lookFrom_5 : decode prog_7_method_3_code 5 = .ok (.aload_n 0, 1) := by decide +kernel
theorem d_Fin_lookFrom_6 : decode prog_7_method_3_code 6 = .ok (.iconst 0, 1) := by decide +kernel
theorem d_Fin_lookFrom_7 : decode prog_7_method_3_code 7 = .ok (.putfield 34, 3) := by decide +kernel
theorem d_Fin_lookFrom_10 : decode prog_7_method_3_code 10 = .ok (.aload_n 0, 1) := by decide +kernel
theorem d_Fin_lookFrom_11 : decode prog_7_method_3_code 11 = .ok (.iload_n 1, 1) := by decide +kernel
theorem d_Fin_lookFrom_12 : decode prog_7_method_3_code 12 = .ok (.invokevirtual 37, 3) := by decide +kernel
theorem d_Fin_lookFrom_15 : decode prog_7_method_3_code 15 = .ok (.sipush 258, 3) := by decide +kernel
theorem d_Fin_lookFrom_18 : decode prog_7_method_3_code 18 = .ok (.aload_n 0, 1) := by decide +kernel
theorem d_Fin_lookFrom_19 : decode prog_7_method_3_code 19 = .ok (.getfield 9, 3) := by decide +kernel
theorem d_Fin_lookFrom_22 : decode prog_7_method_3_code 22 = .ok (.arraylength, 1) := by decide +kernel
theorem d_Fin_lookFrom_23 : decode prog_7_method_3_code 23 = .ok (.iload_n 1, 1) := by decide +kernel
theorem d_Fin_lookFrom_24 : decode prog_7_method_3_code 24 = .ok (.isub, 1) := by decide +kernel
theorem d_Fin_lookFrom_25 : decode prog_7_method_3_code 25 = .ok (.invokestatic 41, 3) := by decide +kernel
theorem d_Fin_lookFrom_28 : decode prog_7_method_3_code 28 = .ok (.istore_n 2, 1) := by decide +kernel
theorem d_Fin_lookFrom_29 : decode prog_7_method_3_code 29 = .ok (.iload_n 1, 1) := by decide +kernel
theorem d_Fin_lookFrom_30 : decode prog_7_method_3_code 30 = .ok (.ifCond .lt 8, 3) := by decide +kernel
theorem d_Fin_lookFrom_33 : decode prog_7_method_3_code 33 = .ok (.iload_n 2, 1) := by decide +kernel
theorem d_Fin_lookFrom_34 : decode prog_7_method_3_code 34 = .ok (.iconst 3, 1) := by decide +kernel
theorem d_Fin_lookFrom_35 : decode prog_7_method_3_code 35 = .ok (.if_icmp .ge 4, 3) := by decide +kernel
theorem d_Fin_lookFrom_38 : decode prog_7_method_3_code 38 = .ok (.return_, 1) := by decide +kernel
theorem d_Fin_lookFrom_39 : decode prog_7_method_3_code 39 = .ok (.aload_n 0, 1) := by decide +kernel
theorem d_Fin_lookFrom_40 : decode prog_7_method_3_code 40 = .ok (.getfield 15, 3) := by decide +kernel
theorem d_Fin_lookFrom_43 : decode prog_7_method_3_code 43 = .ok (.aload_n 0, 1) := by decide +kernel
theorem d_Fin_lookFrom_44 : decode prog_7_method_3_code 44 = .ok (.iload_n 1, 1) := by decide +kernel
theorem d_Fin_lookFrom_45 : decode prog_7_method_3_code 45 = .ok (.invokevirtual 47, 3) := by decide +kernel
theorem d_Fin_lookFrom_48 : decode prog_7_method_3_code 48 = .ok (.iaload, 1) := by decide +kernel
theorem d_Fin_lookFrom_49 : decode prog_7_method_3_code 49 = .ok (.istore_n 3, 1) := by decide +kernel
theorem d_Fin_lookFrom_50 : decode prog_7_method_3_code 50 = .ok (.iconst 0, 1) := by decide +kernel
theorem d_Fin_lookFrom_51 : decode prog_7_method_3_code 51 = .ok (.istore 4, 2) := by decide +kernel
theorem d_Fin_lookFrom_53 : decode prog_7_method_3_code 53 = .ok (.iload 4, 2) := by decide +kernel
theorem d_Fin_lookFrom_55 : decode prog_7_method_3_code 55 = .ok (.iload_n 1, 1) := by decide +kernel
theorem d_Fin_lookFrom_56 : decode prog_7_method_3_code 56 = .ok (.if_icmp .ge 71, 3) := by decide +kernel
theorem d_Fin_lookFrom_59 : decode prog_7_method_3_code 59 = .ok (.aload_n 0, 1) := by decide +kernel
theorem d_Fin_lookFrom_60 : decode prog_7_method_3_code 60 = .ok (.getfield 31, 3) := by decide +kernel
theorem d_Fin_lookFrom_63 : decode prog_7_method_3_code 63 = .ok (.iload_n 2, 1) := by decide +kernel
theorem d_Fin_lookFrom_64 : decode prog_7_method_3_code 64 = .ok (.if_icmp .ge 63, 3) := by decide +kernel
theorem d_Fin_lookFrom_67 : decode prog_7_method_3_code 67 = .ok (.iload_n 3, 1) := by decide +kernel
theorem d_Fin_lookFrom_68 : decode prog_7_method_3_code 68 = .ok (.ifCond .lt 8, 3) := by decide +kernel
theorem d_Fin_lookFrom_71 : decode prog_7_method_3_code 71 = .ok (.iload_n 3, 1) := by decide +kernel
theorem d_Fin_lookFrom_72 : decode prog_7_method_3_code 72 = .ok (.iload_n 1, 1) := by decide +kernel
theorem d_Fin_lookFrom_73 : decode prog_7_method_3_code 73 = .ok (.if_icmp .lt 4, 3) := by decide +kernel
theorem d_Fin_lookFrom_76 : decode prog_7_method_3_code 76 = .ok (.return_, 1) := by decide +kernel
theorem d_Fin_lookFrom_77 : decode prog_7_method_3_code 77 = .ok (.aload_n 0, 1) := by decide +kernel
theorem d_Fin_lookFrom_78 : decode prog_7_method_3_code 78 = .ok (.iload_n 3, 1) := by decide +kernel
theorem d_Fin_lookFrom_79 : decode prog_7_method_3_code 79 = .ok (.iload_n 1, 1) := by decide +kernel
theorem d_Fin_lookFrom_80 : decode prog_7_method_3_code 80 = .ok (.iload_n 2, 1) := by decide +kernel
theorem d_Fin_lookFrom_81 : decode prog_7_method_3_code 81 = .ok (.invokevirtual 51, 3) := by decide +kernel
theorem d_Fin_lookFrom_84 : decode prog_7_method_3_code 84 = .ok (.istore 5, 2) := by decide +kernel
theorem d_Fin_lookFrom_86 : decode prog_7_method_3_code 86 = .ok (.iload 5, 2) := by decide +kernel
theorem d_Fin_lookFrom_88 : decode prog_7_method_3_code 88 = .ok (.iconst 3, 1) := by decide +kernel
theorem d_Fin_lookFrom_89 : decode prog_7_method_3_code 89 = .ok (.if_icmp .lt 25, 3) := by decide +kernel
theorem d_Fin_lookFrom_92 : decode prog_7_method_3_code 92 = .ok (.iload 5, 2) := by decide +kernel
theorem d_Fin_lookFrom_94 : decode prog_7_method_3_code 94 = .ok (.aload_n 0, 1) := by decide +kernel
theorem d_Fin_lookFrom_95 : decode prog_7_method_3_code 95 = .ok (.getfield 31, 3) := by decide +kernel
theorem d_Fin_lookFrom_98 : decode prog_7_method_3_code 98 = .ok (.if_icmp .le 16, 3) := by decide +kernel
theorem d_Fin_lookFrom_101 : decode prog_7_method_3_code 101 = .ok (.aload_n 0, 1) := by decide +kernel
theorem d_Fin_lookFrom_102 : decode prog_7_method_3_code 102 = .ok (.iload 5, 2) := by decide +kernel
theorem d_Fin_lookFrom_104 : decode prog_7_method_3_code 104 = .ok (.putfield 31, 3) := by decide +kernel
theorem d_Fin_lookFrom_107 : decode prog_7_method_3_code 107 = .ok (.aload_n 0, 1) := by decide +kernel
theorem d_Fin_lookFrom_108 : decode prog_7_method_3_code 108 = .ok (.iload_n 1, 1) := by decide +kernel
theorem d_Fin_lookFrom_109 : decode prog_7_method_3_code 109 = .ok (.iload_n 3, 1) := by decide +kernel
theorem d_Fin_lookFrom_110 : decode prog_7_method_3_code 110 = .ok (.isub, 1) := by decide +kernel
theorem d_Fin_lookFrom_111 : decode prog_7_method_3_code 111 = .ok (.putfield 34, 3) := by decide +kernel
theorem d_Fin_lookFrom_114 : decode prog_7_method_3_code 114 = .ok (.aload_n 0, 1) := by decide +kernel
theorem d_Fin_lookFrom_115 : decode prog_7_method_3_code 115 = .ok (.getfield 18, 3) := by decide +kernel
theorem d_Fin_lookFrom_118 : decode prog_7_method_3_code 118 = .ok (.iload_n 3, 1) := by decide +kernel
theorem d_Fin_lookFrom_119 : decode prog_7_method_3_code 119 = .ok (.iaload, 1) := by decide +kernel
theorem d_Fin_lookFrom_120 : decode prog_7_method_3_code 120 = .ok (.istore_n 3, 1) := by decide +kernel
theorem d_Fin_lookFrom_121 : decode prog_7_method_3_code 121 = .ok (.iinc 4 1, 3) := by decide +kernel
theorem d_Fin_lookFrom_124 : decode prog_7_method_3_code 124 = .ok (.goto (-71), 3) := by decide +kernel
theorem d_Fin_lookFrom_127 : decode prog_7_method_3_code 127 = .ok (.return_, 1) := by decide +kernel
abbrev y_Fin_lookFrom : MethodName := ⟨"PicturePacker$RunFinder", "lookFrom", "(I)V"⟩
def wp_Fin_lookFrom_53 (n : Nat → Nat) (rb : Nat → Int32) (x1 : Int32) (post : Int32 × Int32 × Int32 × (Nat → Int32) × (Nat → Int32) → Prop) : Nat → Int32 → Int32 → Int32 → (Nat → Int32) → (Nat → Int32) → Int32 → Int32 → Int32 → Prop
  | 0 => fun _ _ _ _ _ _ _ _ => False
  | N + 1 => fun Fin_chained Fin_length Fin_distance nw nx y2 y3 y4 => ((x1 : Int32) ≤ y4 → (post (Fin_chained, Fin_length, Fin_distance, nw, nx))) ∧ (¬ ((x1 : Int32) ≤ y4) → (((y2 : Int32) ≤ Fin_length → (post (Fin_chained, Fin_length, Fin_distance, nw, nx))) ∧ (¬ ((y2 : Int32) ≤ Fin_length) → (((y3 : Int32) < 0 → (post (Fin_chained, Fin_length, Fin_distance, nw, nx))) ∧ (¬ ((y3 : Int32) < 0) → (((y3 : Int32) < x1 → (wp_Fin_sameBytes n rb y3 x1 y2 (fun r15 _ => ((r15 : Int32) < 3 → (vp_in y3 (n 14) ∧ (∀ z18 : Int32, z18 = (nx (y3 : Int32).toNatClampNeg) → (∀ z19 : Int32, z19 = (y4 + 1) → (wp_Fin_lookFrom_53 n rb x1 post N Fin_chained Fin_length Fin_distance nw nx y2 z18 z19))))) ∧ (¬ ((r15 : Int32) < 3) → (((r15 : Int32) ≤ Fin_length → (vp_in y3 (n 14) ∧ (∀ z22 : Int32, z22 = (nx (y3 : Int32).toNatClampNeg) → (∀ z23 : Int32, z23 = (y4 + 1) → (wp_Fin_lookFrom_53 n rb x1 post N Fin_chained Fin_length Fin_distance nw nx y2 z22 z23))))) ∧ (¬ ((r15 : Int32) ≤ Fin_length) → (∀ z24 : Int32, z24 = (x1 - y3) → (vp_in y3 (n 14) ∧ (∀ z26 : Int32, z26 = (nx (y3 : Int32).toNatClampNeg) → (∀ z27 : Int32, z27 = (y4 + 1) → (wp_Fin_lookFrom_53 n rb x1 post N Fin_chained r15 z24 nw nx y2 z26 z27))))))))))) ∧ (¬ ((y3 : Int32) < x1) → (post (Fin_chained, Fin_length, Fin_distance, nw, nx)))))))))
def wp_Fin_lookFrom (n : Nat → Nat) (Fin_chained : Int32) (Fin_length : Int32) (Fin_distance : Int32) (rb : Nat → Int32) (nw : Nat → Int32) (nx : Nat → Int32) (x1 : Int32) (post : Int32 × Int32 × Int32 × (Nat → Int32) × (Nat → Int32) → Prop) : Prop := wp_Fin_chainUpTo n Fin_chained rb nw nx x1 (fun u1 => ∀ z3 : Int32, z3 = (if ((nI (n 9)) - x1 : Int32) < 258 then (nI (n 9)) - x1 else 258) → (((x1 : Int32) < 0 → (post (u1.1, 0, 0, u1.2.1, u1.2.2))) ∧ (¬ ((x1 : Int32) < 0) → (((3 : Int32) ≤ z3 → (wp_Fin_mark n rb x1 (fun r7 _ => vp_in r7 (n 13) ∧ (∀ z9 : Int32, z9 = (u1.2.1 (r7 : Int32).toNatClampNeg) → (∃ N28 : Nat, wp_Fin_lookFrom_53 n rb x1 post N28 u1.1 0 0 u1.2.1 u1.2.2 z3 z9 0))))) ∧ (¬ ((3 : Int32) ≤ z3) → (post (u1.1, 0, 0, u1.2.1, u1.2.2)))))))
set_option maxHeartbeats 2000000 in
set_option maxRecDepth 20000 in
theorem s_Fin_lookFrom_53 {l : Launch} {dC : Nat → ClassId} {dI : Nat → Nat → Nat} {cI : ClassId} {tb a n : Nat → Nat} {p : Program} {e : Env} {s : State} {m : MethodId} {args : Array Value} {below : List Frame} {meth : Method} {c : Code} {A : Nat → Prop} (E : CallFix p m c prog_7_method_3_code 6 s args TBL "PicturePacker$RunFinder") (hr : meth.sig.returnType = none) (hlk : meth.locks = false) {rb : Nat → Int32} {x1 : Int32} {post : Int32 × Int32 × Int32 × (Nat → Int32) × (Nat → Int32) → Prop} : ∀ (N : Nat) (Fin_chained : Int32) (Fin_length : Int32) (Fin_distance : Int32) (nw : Nat → Int32) (nx : Nat → Int32) (y2 : Int32) (y3 : Int32) (y4 : Int32) (H : Heap) (locs : List Loc) (ls : Array Slot), Wl classes dC dI cI tb A s H locs [e_Fin a Fin_chained Fin_length Fin_distance, e_ar a n cI 9 rb, e_ar a n cI 13 nw, e_ar a n cI 14 nx] → lv_has ls 6 [(0, .ref (a 6)), (1, .int x1), (2, .int y2), (3, .int y3), (4, .int y4)] → wp_Fin_lookFrom_53 n rb x1 post N Fin_chained Fin_length Fin_distance nw nx y2 y3 y4 → W p l e ({ frames := 2, cells := 0, slots := 0, locals := 43 }) s m args below meth c H locs 0 0 (MQ below (va_Qv post (fun u => End0 classes dC dI cI A [e_Fin a u.1 u.2.1 u.2.2.1, e_ar a n cI 9 rb, e_ar a n cI 13 u.2.2.2.1, e_ar a n cI 14 u.2.2.2.2]) A) args s 0 0 A) (F0 m 53 ls []) := by
  obtain ⟨hx, hb, hml, hown, hts⟩ := id E
  intro N
  induction N with
  | zero =>
    intro _ _ _ _ _ _ _ _ H locs ls hw hl h
    exact absurd h id
  | succ N ih =>
    intro Fin_chained Fin_length Fin_distance nw nx y2 y3 y4 H locs ls hw hl h
    unfold wp_Fin_lookFrom_53 at h
    refine lv_iload hx hb d_Fin_lookFrom_53 (lv_at hl 4 rfl) ?_
    refine lv_iload_n hx hb d_Fin_lookFrom_55 rfl (lv_at hl 1 rfl) ?_
    refine lv_icmp_ge (tgt := 127) hx hb d_Fin_lookFrom_56 (by decide) (fun c10 => ?_) (fun c10 => ?_)
    · have h := h.1 c10
      exact retV (out := fun u => [e_Fin a u.1 u.2.1 u.2.2.1, e_ar a n cI 9 rb, e_ar a n cI 13 u.2.2.2.1, e_ar a n cI 14 u.2.2.2.2]) (u := (Fin_chained, Fin_length, Fin_distance, nw, nx)) E hr hlk hw h d_Fin_lookFrom_127
    · have h := h.2 c10
      refine lv_aload_n hx hb d_Fin_lookFrom_59 rfl (lv_at hl 0 rfl) ?_
      refine kget (v := .int Fin_length) (T := F_Fin) E hw in_Fin rfl 0 4 rfl (by decide) tw173 rfl d_Fin_lookFrom_60 ?_
      refine lv_iload_n hx hb d_Fin_lookFrom_63 rfl (lv_at hl 2 rfl) ?_
      refine lv_icmp_ge (tgt := 127) hx hb d_Fin_lookFrom_64 (by decide) (fun c11 => ?_) (fun c11 => ?_)
      · have h := h.1 c11
        exact retV (out := fun u => [e_Fin a u.1 u.2.1 u.2.2.1, e_ar a n cI 9 rb, e_ar a n cI 13 u.2.2.2.1, e_ar a n cI 14 u.2.2.2.2]) (u := (Fin_chained, Fin_length, Fin_distance, nw, nx)) E hr hlk hw h d_Fin_lookFrom_127
      · have h := h.2 c11
        refine lv_iload_n hx hb d_Fin_lookFrom_67 rfl (lv_at hl 3 rfl) ?_
        refine lv_if_lt (tgt := 76) hx hb d_Fin_lookFrom_68 (by decide) (fun c12 => ?_) (fun c12 => ?_)
        · have h := h.1 c12
          exact retV (out := fun u => [e_Fin a u.1 u.2.1 u.2.2.1, e_ar a n cI 9 rb, e_ar a n cI 13 u.2.2.2.1, e_ar a n cI 14 u.2.2.2.2]) (u := (Fin_chained, Fin_length, Fin_distance, nw, nx)) E hr hlk hw h d_Fin_lookFrom_76
        · have h := h.2 c12
          refine lv_iload_n hx hb d_Fin_lookFrom_71 rfl (lv_at hl 3 rfl) ?_
          refine lv_iload_n hx hb d_Fin_lookFrom_72 rfl (lv_at hl 1 rfl) ?_
          refine lv_icmp_lt (tgt := 77) hx hb d_Fin_lookFrom_73 (by decide) (fun c13 => ?_) (fun c13 => ?_)
          · have h := h.1 c13
            refine lv_aload_n hx hb d_Fin_lookFrom_77 rfl (lv_at hl 0 rfl) ?_
            refine lv_iload_n hx hb d_Fin_lookFrom_78 rfl (lv_at hl 3 rfl) ?_
            refine lv_iload_n hx hb d_Fin_lookFrom_79 rfl (lv_at hl 1 rfl) ?_
            refine lv_iload_n hx hb d_Fin_lookFrom_80 rfl (lv_at hl 2 rfl) ?_
            refine kVi (y := y_Fin_sameBytes) (ws' := fun _ => [e_Fin a Fin_chained Fin_length Fin_distance, e_ar a n cI 9 rb, e_ar a n cI 13 nw, e_ar a n cI 14 nx]) (wr := [e_ar a n cI 13 nw, e_ar a n cI 14 nx]) (As := [.int y3, .int x1, .int y2]) (rest := []) E hw (c_Fin_sameBytes (l := l) (dC := dC) (dI := dI) (cI := cI) (tb := tb) (a := a) (n := n) (Fin_chained := Fin_chained) (Fin_length := Fin_length) (Fin_distance := Fin_distance) (rb := rb) (x1 := y3) (x2 := x1) (x3 := y2) h) tw373 tw375 tw9 tw43 tw376 3 (by decide) ⟨Nat.le_of_ble_eq_true rfl, Nat.le_of_ble_eq_true rfl⟩ ⟨Nat.le_of_ble_eq_true rfl, Nat.le_of_ble_eq_true rfl⟩ ⟨rfl, rfl⟩ rfl rfl 0 rfl [0, 1] [2, 3] [2, 3, 0, 1] rfl rfl rfl rfl (by decide) rfl (fun _ => rfl) hl.1 rfl rfl (Nat.le_of_ble_eq_true rfl) d_Fin_lookFrom_81 (fun r15 u14 H locs h hw => ?_)
            refine lv_istore (lv' := [(5, .int r15), (0, .ref (a 6)), (1, .int x1), (2, .int y2), (3, .int y3), (4, .int y4)]) hx hb d_Fin_lookFrom_84 hl (by decide) rfl (fun ls hl => ?_)
            refine lv_iload hx hb d_Fin_lookFrom_86 (lv_at hl 0 rfl) ?_
            refine lv_iconst (v := 3) hx hb d_Fin_lookFrom_88 (by decide) ?_
            refine lv_icmp_lt (tgt := 114) hx hb d_Fin_lookFrom_89 (by decide) (fun c16 => ?_) (fun c16 => ?_)
            · have h := h.1 c16
              refine lv_aload_n hx hb d_Fin_lookFrom_114 rfl (lv_at hl 1 rfl) ?_
              refine kget (v := .ref (a 14)) (T := F_Fin) E hw in_Fin rfl 0 2 rfl (by decide) tw170 rfl d_Fin_lookFrom_115 ?_
              refine lv_iload_n hx hb d_Fin_lookFrom_118 rfl (lv_at hl 4 rfl) ?_
              obtain ⟨b17, h⟩ := h
              refine kald E hw 3 rfl b17 d_Fin_lookFrom_119 ?_
              refine lv_topi (fun z18 ez18 => ?_)
              have h := h z18 ez18
              refine lv_istore_n (lv' := [(3, .int z18), (5, .int r15), (0, .ref (a 6)), (1, .int x1), (2, .int y2), (4, .int y4)]) hx hb d_Fin_lookFrom_120 rfl hl (by decide) rfl (fun ls hl => ?_)
              obtain ⟨z19, ez19⟩ : ∃ z : Int32, z = y4 + 1 := ⟨_, rfl⟩
              have h := h z19 ez19
              refine lv_iinc (v := z19) (lv' := [(4, .int z19), (3, .int z18), (5, .int r15), (0, .ref (a 6)), (1, .int x1), (2, .int y2)]) hx hb d_Fin_lookFrom_121 hl (k := 5) rfl (by rw [ez19]; exact congrArg (y4 + ·) (by decide)) (by decide) rfl (fun ls hl => ?_)
              refine lv_goto (tgt := 53) hx hb d_Fin_lookFrom_124 (by decide) ?_
              exact ih Fin_chained Fin_length Fin_distance nw nx y2 z18 z19 _ _ ls hw (lv_sub hl [3, 4, 5, 1, 0] rfl) h
            · have h := h.2 c16
              refine lv_iload hx hb d_Fin_lookFrom_92 (lv_at hl 0 rfl) ?_
              refine lv_aload_n hx hb d_Fin_lookFrom_94 rfl (lv_at hl 1 rfl) ?_
              refine kget (v := .int Fin_length) (T := F_Fin) E hw in_Fin rfl 0 4 rfl (by decide) tw173 rfl d_Fin_lookFrom_95 ?_
              refine lv_icmp_le (tgt := 114) hx hb d_Fin_lookFrom_98 (by decide) (fun c20 => ?_) (fun c20 => ?_)
              · have h := h.1 c20
                refine lv_aload_n hx hb d_Fin_lookFrom_114 rfl (lv_at hl 1 rfl) ?_
                refine kget (v := .ref (a 14)) (T := F_Fin) E hw in_Fin rfl 0 2 rfl (by decide) tw170 rfl d_Fin_lookFrom_115 ?_
                refine lv_iload_n hx hb d_Fin_lookFrom_118 rfl (lv_at hl 4 rfl) ?_
                obtain ⟨b21, h⟩ := h
                refine kald E hw 3 rfl b21 d_Fin_lookFrom_119 ?_
                refine lv_topi (fun z22 ez22 => ?_)
                have h := h z22 ez22
                refine lv_istore_n (lv' := [(3, .int z22), (5, .int r15), (0, .ref (a 6)), (1, .int x1), (2, .int y2), (4, .int y4)]) hx hb d_Fin_lookFrom_120 rfl hl (by decide) rfl (fun ls hl => ?_)
                obtain ⟨z23, ez23⟩ : ∃ z : Int32, z = y4 + 1 := ⟨_, rfl⟩
                have h := h z23 ez23
                refine lv_iinc (v := z23) (lv' := [(4, .int z23), (3, .int z22), (5, .int r15), (0, .ref (a 6)), (1, .int x1), (2, .int y2)]) hx hb d_Fin_lookFrom_121 hl (k := 5) rfl (by rw [ez23]; exact congrArg (y4 + ·) (by decide)) (by decide) rfl (fun ls hl => ?_)
                refine lv_goto (tgt := 53) hx hb d_Fin_lookFrom_124 (by decide) ?_
                exact ih Fin_chained Fin_length Fin_distance nw nx y2 z22 z23 _ _ ls hw (lv_sub hl [3, 4, 5, 1, 0] rfl) h
              · have h := h.2 c20
                refine lv_aload_n hx hb d_Fin_lookFrom_101 rfl (lv_at hl 1 rfl) ?_
                refine lv_iload hx hb d_Fin_lookFrom_102 (lv_at hl 0 rfl) ?_
                refine kput (v := .int r15) (ty := .int) (T := F_Fin) (ws' := [e_Fin a Fin_chained r15 Fin_distance, e_ar a n cI 9 rb, e_ar a n cI 13 nw, e_ar a n cI 14 nx]) E hw in_Fin t_Fin t_Fin_ok n_Fin rfl 0 4 rfl (by decide) tw173 rfl rfl rfl rfl (Nat.le_of_ble_eq_true rfl) rfl d_Fin_lookFrom_104 (fun H locs hw => ?_)
                refine lv_aload_n hx hb d_Fin_lookFrom_107 rfl (lv_at hl 1 rfl) ?_
                refine lv_iload_n hx hb d_Fin_lookFrom_108 rfl (lv_at hl 2 rfl) ?_
                refine lv_iload_n hx hb d_Fin_lookFrom_109 rfl (lv_at hl 4 rfl) ?_
                refine lv_isub hx hb d_Fin_lookFrom_110 ?_
                refine lv_topi (fun z24 ez24 => ?_)
                have h := h z24 ez24
                refine kput (v := .int z24) (ty := .int) (T := F_Fin) (ws' := [e_Fin a Fin_chained r15 z24, e_ar a n cI 9 rb, e_ar a n cI 13 nw, e_ar a n cI 14 nx]) E hw in_Fin t_Fin t_Fin_ok n_Fin rfl 0 5 rfl (by decide) tw175 rfl rfl rfl rfl (Nat.le_of_ble_eq_true rfl) rfl d_Fin_lookFrom_111 (fun H locs hw => ?_)
                refine lv_aload_n hx hb d_Fin_lookFrom_114 rfl (lv_at hl 1 rfl) ?_
                refine kget (v := .ref (a 14)) (T := F_Fin) E hw in_Fin rfl 0 2 rfl (by decide) tw170 rfl d_Fin_lookFrom_115 ?_
                refine lv_iload_n hx hb d_Fin_lookFrom_118 rfl (lv_at hl 4 rfl) ?_
                obtain ⟨b25, h⟩ := h
                refine kald E hw 3 rfl b25 d_Fin_lookFrom_119 ?_
                refine lv_topi (fun z26 ez26 => ?_)
                have h := h z26 ez26
                refine lv_istore_n (lv' := [(3, .int z26), (5, .int r15), (0, .ref (a 6)), (1, .int x1), (2, .int y2), (4, .int y4)]) hx hb d_Fin_lookFrom_120 rfl hl (by decide) rfl (fun ls hl => ?_)
                obtain ⟨z27, ez27⟩ : ∃ z : Int32, z = y4 + 1 := ⟨_, rfl⟩
                have h := h z27 ez27
                refine lv_iinc (v := z27) (lv' := [(4, .int z27), (3, .int z26), (5, .int r15), (0, .ref (a 6)), (1, .int x1), (2, .int y2)]) hx hb d_Fin_lookFrom_121 hl (k := 5) rfl (by rw [ez27]; exact congrArg (y4 + ·) (by decide)) (by decide) rfl (fun ls hl => ?_)
                refine lv_goto (tgt := 53) hx hb d_Fin_lookFrom_124 (by decide) ?_
                exact ih Fin_chained r15 z24 nw nx y2 z26 z27 _ _ ls hw (lv_sub hl [3, 4, 5, 1, 0] rfl) h
          · have h := h.2 c13
            exact retV (out := fun u => [e_Fin a u.1 u.2.1 u.2.2.1, e_ar a n cI 9 rb, e_ar a n cI 13 u.2.2.2.1, e_ar a n cI 14 u.2.2.2.2]) (u := (Fin_chained, Fin_length, Fin_distance, nw, nx)) E hr hlk hw h d_Fin_lookFrom_76
set_option maxHeartbeats 2000000 in
set_option maxRecDepth 20000 in
theorem c_Fin_lookFrom {l : Launch} {dC : Nat → ClassId} {dI : Nat → Nat → Nat} {cI : ClassId} {tb a n : Nat → Nat} {Fin_chained : Int32} {Fin_length : Int32} {Fin_distance : Int32} {rb : Nat → Int32} {nw : Nat → Int32} {nx : Nat → Int32} {x1 : Int32} {post : Int32 × Int32 × Int32 × (Nat → Int32) × (Nat → Int32) → Prop} (h : wp_Fin_lookFrom n Fin_chained Fin_length Fin_distance rb nw nx x1 post) : CtV classes dC dI cI tb l y_Fin_lookFrom prog_7_method_3_code 6 ({ frames := 2, cells := 0, slots := 0, locals := 43 }) [.ref (a 6), .int x1] [e_Fin a Fin_chained Fin_length Fin_distance, e_ar a n cI 9 rb, e_ar a n cI 13 nw, e_ar a n cI 14 nx] (Int32 × Int32 × Int32 × (Nat → Int32) × (Nat → Int32)) (fun u => [e_Fin a u.1 u.2.1 u.2.2.1, e_ar a n cI 9 rb, e_ar a n cI 13 u.2.2.2.1, e_ar a n cI 14 u.2.2.2.2]) post := by
  refine startV (by decide) (Nat.le_of_ble_eq_true rfl) ?_
  intro p e s m below meth c ls E hr hlk hnm hl hw
  have hl : lv_has ls 6 [(0, .ref (a 6)), (1, .int x1)] := hl
  generalize va_A [e_Fin a Fin_chained Fin_length Fin_distance, e_ar a n cI 9 rb, e_ar a n cI 13 nw, e_ar a n cI 14 nx] s.heap.size = A at hw ⊢
  obtain ⟨hx, hb, hml, hown, hts⟩ := id E
  unfold wp_Fin_lookFrom at h
  refine lv_aload_n hx hb d_Fin_lookFrom_0 rfl (lv_at hl 0 rfl) ?_
  refine lv_iconst (v := 0) hx hb d_Fin_lookFrom_1 (by decide) ?_
  refine kput (v := .int 0) (ty := .int) (T := F_Fin) (ws' := [e_Fin a Fin_chained 0 Fin_distance, e_ar a n cI 9 rb, e_ar a n cI 13 nw, e_ar a n cI 14 nx]) E hw in_Fin t_Fin t_Fin_ok n_Fin rfl 0 4 rfl (by decide) tw173 rfl rfl rfl rfl (Nat.le_of_ble_eq_true rfl) rfl d_Fin_lookFrom_2 (fun H locs hw => ?_)
  refine lv_aload_n hx hb d_Fin_lookFrom_5 rfl (lv_at hl 0 rfl) ?_
  refine lv_iconst (v := 0) hx hb d_Fin_lookFrom_6 (by decide) ?_
  refine kput (v := .int 0) (ty := .int) (T := F_Fin) (ws' := [e_Fin a Fin_chained 0 0, e_ar a n cI 9 rb, e_ar a n cI 13 nw, e_ar a n cI 14 nx]) E hw in_Fin t_Fin t_Fin_ok n_Fin rfl 0 5 rfl (by decide) tw175 rfl rfl rfl rfl (Nat.le_of_ble_eq_true rfl) rfl d_Fin_lookFrom_7 (fun H locs hw => ?_)
  refine lv_aload_n hx hb d_Fin_lookFrom_10 rfl (lv_at hl 0 rfl) ?_
  refine lv_iload_n hx hb d_Fin_lookFrom_11 rfl (lv_at hl 1 rfl) ?_
  refine kVv (y := y_Fin_chainUpTo) (ws' := fun u1 => [e_Fin a u1.1 0 0, e_ar a n cI 9 rb, e_ar a n cI 13 u1.2.1, e_ar a n cI 14 u1.2.2]) (wr := []) (As := [.int x1]) (rest := []) E hw (c_Fin_chainUpTo (l := l) (dC := dC) (dI := dI) (cI := cI) (tb := tb) (a := a) (n := n) (Fin_chained := Fin_chained) (Fin_length := 0) (Fin_distance := 0) (rb := rb) (nw := nw) (nx := nx) (x1 := x1) h) tw364 tw366 tw7 tw43 tw367 1 (by decide) ⟨Nat.le_of_ble_eq_true rfl, Nat.le_of_ble_eq_true rfl⟩ ⟨Nat.le_of_ble_eq_true rfl, Nat.le_of_ble_eq_true rfl⟩ ⟨rfl, rfl⟩ rfl rfl 0 rfl [0, 1, 2, 3] [] [0, 1, 2, 3] rfl rfl rfl rfl (by decide) rfl (fun _ => rfl) hl.1 rfl rfl (Nat.le_of_ble_eq_true rfl) d_Fin_lookFrom_12 (fun u1 H locs h hw => ?_)
  refine lv_sipush (v := 258) hx hb d_Fin_lookFrom_15 (by decide) ?_
  refine lv_aload_n hx hb d_Fin_lookFrom_18 rfl (lv_at hl 0 rfl) ?_
  refine kget (v := .ref (a 9)) (T := F_Fin) E hw in_Fin rfl 0 0 rfl (by decide) tw168 rfl d_Fin_lookFrom_19 ?_
  refine kalen E hw 1 rfl d_Fin_lookFrom_22 ?_
  refine lv_iload_n hx hb d_Fin_lookFrom_23 rfl (lv_at hl 1 rfl) ?_
  refine lv_isub hx hb d_Fin_lookFrom_24 ?_
  refine kmin E hl.1 tw372 tw59 tw37 tw60 (Nat.le_of_ble_eq_true rfl) (Nat.le_of_ble_eq_true rfl) (Nat.le_of_ble_eq_true rfl) (Nat.le_of_ble_eq_true rfl) d_Fin_lookFrom_25 ?_
  refine lv_topi (fun z3 ez3 => ?_)
  have h := h z3 ez3
  refine lv_istore_n (lv' := [(2, .int z3), (0, .ref (a 6)), (1, .int x1)]) hx hb d_Fin_lookFrom_28 rfl hl (by decide) rfl (fun ls hl => ?_)
  refine lv_iload_n hx hb d_Fin_lookFrom_29 rfl (lv_at hl 2 rfl) ?_
  refine lv_if_lt (tgt := 38) hx hb d_Fin_lookFrom_30 (by decide) (fun c4 => ?_) (fun c4 => ?_)
  · have h := h.1 c4
    exact retV (out := fun u => [e_Fin a u.1 u.2.1 u.2.2.1, e_ar a n cI 9 rb, e_ar a n cI 13 u.2.2.2.1, e_ar a n cI 14 u.2.2.2.2]) (u := (u1.1, 0, 0, u1.2.1, u1.2.2)) E hr hlk hw h d_Fin_lookFrom_38
  · have h := h.2 c4
    refine lv_iload_n hx hb d_Fin_lookFrom_33 rfl (lv_at hl 0 rfl) ?_
    refine lv_iconst (v := 3) hx hb d_Fin_lookFrom_34 (by decide) ?_
    refine lv_icmp_ge (tgt := 39) hx hb d_Fin_lookFrom_35 (by decide) (fun c5 => ?_) (fun c5 => ?_)
    · have h := h.1 c5
      refine lv_aload_n hx hb d_Fin_lookFrom_39 rfl (lv_at hl 1 rfl) ?_
      refine kget (v := .ref (a 13)) (T := F_Fin) E hw in_Fin rfl 0 1 rfl (by decide) tw169 rfl d_Fin_lookFrom_40 ?_
      refine lv_aload_n hx hb d_Fin_lookFrom_43 rfl (lv_at hl 1 rfl) ?_
      refine lv_iload_n hx hb d_Fin_lookFrom_44 rfl (lv_at hl 2 rfl) ?_
      refine kVi (y := y_Fin_mark) (ws' := fun _ => [e_Fin a u1.1 0 0, e_ar a n cI 9 rb, e_ar a n cI 13 u1.2.1, e_ar a n cI 14 u1.2.2]) (wr := [e_ar a n cI 13 u1.2.1, e_ar a n cI 14 u1.2.2]) (As := [.int x1]) (rest := [.ref (a 13)]) E hw (c_Fin_mark (l := l) (dC := dC) (dI := dI) (cI := cI) (tb := tb) (a := a) (n := n) (Fin_chained := u1.1) (Fin_length := 0) (Fin_distance := 0) (rb := rb) (x1 := x1) h) tw368 tw370 tw8 tw43 tw371 1 (by decide) ⟨Nat.le_of_ble_eq_true rfl, Nat.le_of_ble_eq_true rfl⟩ ⟨Nat.le_of_ble_eq_true rfl, Nat.le_of_ble_eq_true rfl⟩ ⟨rfl, rfl⟩ rfl rfl 0 rfl [0, 1] [2, 3] [2, 3, 0, 1] rfl rfl rfl rfl (by decide) rfl (fun _ => rfl) hl.1 rfl rfl (Nat.le_of_ble_eq_true rfl) d_Fin_lookFrom_45 (fun r7 u6 H locs h hw => ?_)
      obtain ⟨b8, h⟩ := h
      refine kald E hw 2 rfl b8 d_Fin_lookFrom_48 ?_
      refine lv_topi (fun z9 ez9 => ?_)
      have h := h z9 ez9
      refine lv_istore_n (lv' := [(3, .int z9), (2, .int z3), (0, .ref (a 6)), (1, .int x1)]) hx hb d_Fin_lookFrom_49 rfl hl (by decide) rfl (fun ls hl => ?_)
      refine lv_iconst (v := 0) hx hb d_Fin_lookFrom_50 (by decide) ?_
      refine lv_istore (lv' := [(4, .int 0), (3, .int z9), (2, .int z3), (0, .ref (a 6)), (1, .int x1)]) hx hb d_Fin_lookFrom_51 hl (by decide) rfl (fun ls hl => ?_)
      obtain ⟨N28, h⟩ := h
      exact s_Fin_lookFrom_53 (a := a) (n := n) (tb := tb) E hr hlk  N28 u1.1 0 0 u1.2.1 u1.2.2 z3 z9 0 _ _ ls hw (lv_sub hl [3, 4, 2, 1, 0] rfl) h
    · have h := h.2 c5
      exact retV (out := fun u => [e_Fin a u.1 u.2.1 u.2.2.1, e_ar a n cI 9 rb, e_ar a n cI 13 u.2.2.2.1, e_ar a n cI 14 u.2.2.2.2]) (u := (u1.1, 0, 0, u1.2.1, u1.2.2)) E hr hlk hw h d_Fin_lookFrom_38
end
section
-- PicturePacker$Packer.addRunSign(I)V
theorem d_Pak_addRunSign_0 : decode prog_4_method_8_code 0 = .ok (.iload_n 1, 1) := by decide +kernel
theorem d_Pak_addRunSign_1 : decode prog_4_method_8_code 1 = .ok (.sipush 280, 3) := by decide +kernel
theorem d_Pak_addRunSign_4 : decode prog_4_method_8_code 4 = .ok (.if_icmp .ge 20, 3) := by decide +kernel
theorem d_Pak_addRunSign_7 : decode prog_4_method_8_code 7 = .ok (.aload_n 0, 1) := by decide +kernel
theorem d_Pak_addRunSign_8 : decode prog_4_method_8_code 8 = .ok (.getfield 13, 3) := by decide +kernel
theorem d_Pak_addRunSign_11 : decode prog_4_method_8_code 11 = .ok (.iload_n 1, 1) := by decide +kernel
theorem d_Pak_addRunSign_12 : decode prog_4_method_8_code 12 = .ok (.sipush 256, 3) := by decide +kernel
theorem d_Pak_addRunSign_15 : decode prog_4_method_8_code 15 = .ok (.isub, 1) := by decide +kernel
theorem d_Pak_addRunSign_16 : decode prog_4_method_8_code 16 = .ok (.bipush 7, 2) := by decide +kernel
theorem d_Pak_addRunSign_18 : decode prog_4_method_8_code 18 = .ok (.invokevirtual 67, 3) := by decide +kernel
theorem d_Pak_addRunSign_21 : decode prog_4_method_8_code 21 = .ok (.goto 21, 3) := by decide +kernel
theorem d_Pak_addRunSign_24 : decode prog_4_method_8_code 24 = .ok (.aload_n 0, 1) := by decide +kernel
theorem d_Pak_addRunSign_25 : decode prog_4_method_8_code 25 = .ok (.getfield 13, 3) := by decide +kernel
theorem d_Pak_addRunSign_28 : decode prog_4_method_8_code 28 = .ok (.sipush 192, 3) := by decide +kernel
theorem d_Pak_addRunSign_31 : decode prog_4_method_8_code 31 = .ok (.iload_n 1, 1) := by decide +kernel
theorem d_Pak_addRunSign_32 : decode prog_4_method_8_code 32 = .ok (.iadd, 1) := by decide +kernel
theorem d_Pak_addRunSign_33 : decode prog_4_method_8_code 33 = .ok (.sipush 280, 3) := by decide +kernel
theorem d_Pak_addRunSign_36 : decode prog_4_method_8_code 36 = .ok (.isub, 1) := by decide +kernel
theorem d_Pak_addRunSign_37 : decode prog_4_method_8_code 37 = .ok (.bipush 8, 2) := by decide +kernel
theorem d_Pak_addRunSign_39 : decode prog_4_method_8_code 39 = .ok (.invokevirtual 67, 3) := by decide +kernel
theorem d_Pak_addRunSign_42 : decode prog_4_method_8_code 42 = .ok (.return_, 1) := by decide +kernel
abbrev y_Pak_addRunSign : MethodName := ⟨"PicturePacker$Packer", "addRunSign", "(I)V"⟩
def wp_Pak_addRunSign (n : Nat → Nat) (Out_size : Int32) (Out_gathered : Int32) (Out_gatheredBits : Int32) (ob : Nat → Int32) (x1 : Int32) (post : Int32 × Int32 × Int32 × (Nat → Int32) → Prop) : Prop := ((280 : Int32) ≤ x1 → (wp_Out_addBitsHighestFirst n Out_size Out_gathered Out_gatheredBits ob ((192 + x1) - 280) 8 (fun u2 => post (u2.1, u2.2.1, u2.2.2.1, u2.2.2.2)))) ∧ (¬ ((280 : Int32) ≤ x1) → (wp_Out_addBitsHighestFirst n Out_size Out_gathered Out_gatheredBits ob (x1 - 256) 7 (fun u4 => post (u4.1, u4.2.1, u4.2.2.1, u4.2.2.2))))
set_option maxHeartbeats 2000000 in
set_option maxRecDepth 20000 in
theorem c_Pak_addRunSign {l : Launch} {dC : Nat → ClassId} {dI : Nat → Nat → Nat} {cI : ClassId} {tb a n : Nat → Nat} {Out_size : Int32} {Out_gathered : Int32} {Out_gatheredBits : Int32} {Pak_singles : Int32} {Pak_runs : Int32} {Pak_longest : Int32} {ob : Nat → Int32} {x1 : Int32} {post : Int32 × Int32 × Int32 × (Nat → Int32) → Prop} (h : wp_Pak_addRunSign n Out_size Out_gathered Out_gatheredBits ob x1 post) : CtV classes dC dI cI tb l y_Pak_addRunSign prog_4_method_8_code 2 ({ frames := 4, cells := 0, slots := 0, locals := 85 }) [.ref (a 5), .int x1] [e_Out a Out_size Out_gathered Out_gatheredBits, e_Pak a Pak_singles Pak_runs Pak_longest, e_ar a n cI 11 ob] (Int32 × Int32 × Int32 × (Nat → Int32)) (fun u => [e_Out a u.1 u.2.1 u.2.2.1, e_Pak a Pak_singles Pak_runs Pak_longest, e_ar a n cI 11 u.2.2.2]) post := by
  refine startV (by decide) (Nat.le_of_ble_eq_true rfl) ?_
  intro p e s m below meth c ls E hr hlk hnm hl hw
  have hl : lv_has ls 2 [(0, .ref (a 5)), (1, .int x1)] := hl
  generalize va_A [e_Out a Out_size Out_gathered Out_gatheredBits, e_Pak a Pak_singles Pak_runs Pak_longest, e_ar a n cI 11 ob] s.heap.size = A at hw ⊢
  obtain ⟨hx, hb, hml, hown, hts⟩ := id E
  unfold wp_Pak_addRunSign at h
  refine lv_iload_n hx hb d_Pak_addRunSign_0 rfl (lv_at hl 1 rfl) ?_
  refine lv_sipush (v := 280) hx hb d_Pak_addRunSign_1 (by decide) ?_
  refine lv_icmp_ge (tgt := 24) hx hb d_Pak_addRunSign_4 (by decide) (fun c1 => ?_) (fun c1 => ?_)
  · have h := h.1 c1
    refine lv_aload_n hx hb d_Pak_addRunSign_24 rfl (lv_at hl 0 rfl) ?_
    refine kget (v := .ref (a 3)) (T := F_Pak) E hw in_Pak rfl 1 1 rfl (by decide) tw190 rfl d_Pak_addRunSign_25 ?_
    refine lv_sipush (v := 192) hx hb d_Pak_addRunSign_28 (by decide) ?_
    refine lv_iload_n hx hb d_Pak_addRunSign_31 rfl (lv_at hl 1 rfl) ?_
    refine lv_iadd hx hb d_Pak_addRunSign_32 ?_
    refine lv_sipush (v := 280) hx hb d_Pak_addRunSign_33 (by decide) ?_
    refine lv_isub hx hb d_Pak_addRunSign_36 ?_
    refine lv_bipush (v := 8) hx hb d_Pak_addRunSign_37 (by decide) ?_
    refine kVv (y := y_Out_addBitsHighestFirst) (ws' := fun u2 => [e_Out a u2.1 u2.2.1 u2.2.2.1, e_Pak a Pak_singles Pak_runs Pak_longest, e_ar a n cI 11 u2.2.2.2]) (wr := [e_Pak a Pak_singles Pak_runs Pak_longest]) (As := [.int ((192 + x1) - 280), .int 8]) (rest := []) E hw (c_Out_addBitsHighestFirst (l := l) (dC := dC) (dI := dI) (cI := cI) (tb := tb) (a := a) (n := n) (Out_size := Out_size) (Out_gathered := Out_gathered) (Out_gatheredBits := Out_gatheredBits) (ob := ob) (x1 := (192 + x1) - 280) (x2 := 8) h) tw390 tw391 tw392 tw40 tw393 2 (by decide) ⟨Nat.le_of_ble_eq_true rfl, Nat.le_of_ble_eq_true rfl⟩ ⟨Nat.le_of_ble_eq_true rfl, Nat.le_of_ble_eq_true rfl⟩ ⟨rfl, rfl⟩ rfl rfl 0 rfl [0, 2] [1] [1, 0, 2] rfl rfl rfl rfl (by decide) rfl (fun _ => rfl) hl.1 rfl rfl (Nat.le_of_ble_eq_true rfl) d_Pak_addRunSign_39 (fun u2 H locs h hw => ?_)
    exact retV (out := fun u => [e_Out a u.1 u.2.1 u.2.2.1, e_Pak a Pak_singles Pak_runs Pak_longest, e_ar a n cI 11 u.2.2.2]) (u := (u2.1, u2.2.1, u2.2.2.1, u2.2.2.2)) E hr hlk hw h d_Pak_addRunSign_42
  · have h := h.2 c1
    refine lv_aload_n hx hb d_Pak_addRunSign_7 rfl (lv_at hl 0 rfl) ?_
    refine kget (v := .ref (a 3)) (T := F_Pak) E hw in_Pak rfl 1 1 rfl (by decide) tw190 rfl d_Pak_addRunSign_8 ?_
    refine lv_iload_n hx hb d_Pak_addRunSign_11 rfl (lv_at hl 1 rfl) ?_
    refine lv_sipush (v := 256) hx hb d_Pak_addRunSign_12 (by decide) ?_
    refine lv_isub hx hb d_Pak_addRunSign_15 ?_
    refine lv_bipush (v := 7) hx hb d_Pak_addRunSign_16 (by decide) ?_
    refine kVv (y := y_Out_addBitsHighestFirst) (ws' := fun u4 => [e_Out a u4.1 u4.2.1 u4.2.2.1, e_Pak a Pak_singles Pak_runs Pak_longest, e_ar a n cI 11 u4.2.2.2]) (wr := [e_Pak a Pak_singles Pak_runs Pak_longest]) (As := [.int (x1 - 256), .int 7]) (rest := []) E hw (c_Out_addBitsHighestFirst (l := l) (dC := dC) (dI := dI) (cI := cI) (tb := tb) (a := a) (n := n) (Out_size := Out_size) (Out_gathered := Out_gathered) (Out_gatheredBits := Out_gatheredBits) (ob := ob) (x1 := x1 - 256) (x2 := 7) h) tw390 tw391 tw392 tw40 tw393 2 (by decide) ⟨Nat.le_of_ble_eq_true rfl, Nat.le_of_ble_eq_true rfl⟩ ⟨Nat.le_of_ble_eq_true rfl, Nat.le_of_ble_eq_true rfl⟩ ⟨rfl, rfl⟩ rfl rfl 0 rfl [0, 2] [1] [1, 0, 2] rfl rfl rfl rfl (by decide) rfl (fun _ => rfl) hl.1 rfl rfl (Nat.le_of_ble_eq_true rfl) d_Pak_addRunSign_18 (fun u4 H locs h hw => ?_)
    refine lv_goto (tgt := 42) hx hb d_Pak_addRunSign_21 (by decide) ?_
    exact retV (out := fun u => [e_Out a u.1 u.2.1 u.2.2.1, e_Pak a Pak_singles Pak_runs Pak_longest, e_ar a n cI 11 u.2.2.2]) (u := (u4.1, u4.2.1, u4.2.2.1, u4.2.2.2)) E hr hlk hw h d_Pak_addRunSign_42
-- PicturePacker$Packer.addSingle(I)V
theorem d_Pak_addSingle_0 : decode prog_4_method_3_code 0 = .ok (.aload_n 0, 1) := by decide +kernel
theorem d_Pak_addSingle_1 : decode prog_4_method_3_code 1 = .ok (.dup, 1) := by decide +kernel
theorem d_Pak_addSingle_2 : decode prog_4_method_3_code 2 = .ok (.getfield 26, 3) := by decide +kernel
theorem d_Pak_addSingle_5 : decode prog_4_method_3_code 5 = .ok (.iconst 1, 1) := by decide +kernel
theorem d_Pak_addSingle_6 : decode prog_4_method_3_code 6 = .ok (.iadd, 1) := by decide +kernel
theorem d_Pak_addSingle_7 : decode prog_4_method_3_code 7 = .ok (.putfield 26, 3) := by decide +kernel
theorem d_Pak_addSingle_10 : decode prog_4_method_3_code 10 = .ok (.iload_n 1, 1) := by decide +kernel
theorem d_Pak_addSingle_11 : decode prog_4_method_3_code 11 = .ok (.sipush 144, 3) := by decide +kernel
theorem d_Pak_addSingle_14 : decode prog_4_method_3_code 14 = .ok (.if_icmp .ge 19, 3) := by decide +kernel
theorem d_Pak_addSingle_17 : decode prog_4_method_3_code 17 = .ok (.aload_n 0, 1) := by decide +kernel
theorem d_Pak_addSingle_18 : decode prog_4_method_3_code 18 = .ok (.getfield 13, 3) := by decide +kernel
theorem d_Pak_addSingle_21 : decode prog_4_method_3_code 21 = .ok (.bipush 48, 2) := by decide +kernel
theorem d_Pak_addSingle_23 : decode prog_4_method_3_code 23 = .ok (.iload_n 1, 1) := by decide +kernel
theorem d_Pak_addSingle_24 : decode prog_4_method_3_code 24 = .ok (.iadd, 1) := by decide +kernel
theorem d_Pak_addSingle_25 : decode prog_4_method_3_code 25 = .ok (.bipush 8, 2) := by decide +kernel
theorem d_Pak_addSingle_27 : decode prog_4_method_3_code 27 = .ok (.invokevirtual 67, 3) := by decide +kernel
theorem d_Pak_addSingle_30 : decode prog_4_method_3_code 30 = .ok (.goto 21, 3) := by decide +kernel
theorem d_Pak_addSingle_33 : decode prog_4_method_3_code 33 = .ok (.aload_n 0, 1) := by decide +kernel
theorem d_Pak_addSingle_34 : decode prog_4_method_3_code 34 = .ok (.getfield 13, 3) := by decide +kernel
theorem d_Pak_addSingle_37 : decode prog_4_method_3_code 37 = .ok (.sipush 400, 3) := by decide +kernel
theorem d_Pak_addSingle_40 : decode prog_4_method_3_code 40 = .ok (.iload_n 1, 1) := by decide +kernel
theorem d_Pak_addSingle_41 : decode prog_4_method_3_code 41 = .ok (.iadd, 1) := by decide +kernel
theorem d_Pak_addSingle_42 : decode prog_4_method_3_code 42 = .ok (.sipush 144, 3) := by decide +kernel
theorem d_Pak_addSingle_45 : decode prog_4_method_3_code 45 = .ok (.isub, 1) := by decide +kernel
theorem d_Pak_addSingle_46 : decode prog_4_method_3_code 46 = .ok (.bipush 9, 2) := by decide +kernel
theorem d_Pak_addSingle_48 : decode prog_4_method_3_code 48 = .ok (.invokevirtual 67, 3) := by decide +kernel
theorem d_Pak_addSingle_51 : decode prog_4_method_3_code 51 = .ok (.return_, 1) := by decide +kernel
abbrev y_Pak_addSingle : MethodName := ⟨"PicturePacker$Packer", "addSingle", "(I)V"⟩
def wp_Pak_addSingle (n : Nat → Nat) (Out_size : Int32) (Out_gathered : Int32) (Out_gatheredBits : Int32) (Pak_singles : Int32) (ob : Nat → Int32) (x1 : Int32) (post : Int32 × Int32 × Int32 × Int32 × (Nat → Int32) → Prop) : Prop := ∀ z1 : Int32, z1 = (Pak_singles + 1) → (((144 : Int32) ≤ x1 → (wp_Out_addBitsHighestFirst n Out_size Out_gathered Out_gatheredBits ob ((400 + x1) - 144) 9 (fun u3 => post (u3.1, u3.2.1, u3.2.2.1, z1, u3.2.2.2)))) ∧ (¬ ((144 : Int32) ≤ x1) → (wp_Out_addBitsHighestFirst n Out_size Out_gathered Out_gatheredBits ob (48 + x1) 8 (fun u5 => post (u5.1, u5.2.1, u5.2.2.1, z1, u5.2.2.2)))))
set_option maxHeartbeats 2000000 in
set_option maxRecDepth 20000 in
theorem c_Pak_addSingle {l : Launch} {dC : Nat → ClassId} {dI : Nat → Nat → Nat} {cI : ClassId} {tb a n : Nat → Nat} {Out_size : Int32} {Out_gathered : Int32} {Out_gatheredBits : Int32} {Pak_singles : Int32} {Pak_runs : Int32} {Pak_longest : Int32} {ob : Nat → Int32} {x1 : Int32} {post : Int32 × Int32 × Int32 × Int32 × (Nat → Int32) → Prop} (h : wp_Pak_addSingle n Out_size Out_gathered Out_gatheredBits Pak_singles ob x1 post) : CtV classes dC dI cI tb l y_Pak_addSingle prog_4_method_3_code 2 ({ frames := 4, cells := 0, slots := 0, locals := 85 }) [.ref (a 5), .int x1] [e_Out a Out_size Out_gathered Out_gatheredBits, e_Pak a Pak_singles Pak_runs Pak_longest, e_ar a n cI 11 ob] (Int32 × Int32 × Int32 × Int32 × (Nat → Int32)) (fun u => [e_Out a u.1 u.2.1 u.2.2.1, e_Pak a u.2.2.2.1 Pak_runs Pak_longest, e_ar a n cI 11 u.2.2.2.2]) post := by
  refine startV (by decide) (Nat.le_of_ble_eq_true rfl) ?_
  intro p e s m below meth c ls E hr hlk hnm hl hw
  have hl : lv_has ls 2 [(0, .ref (a 5)), (1, .int x1)] := hl
  generalize va_A [e_Out a Out_size Out_gathered Out_gatheredBits, e_Pak a Pak_singles Pak_runs Pak_longest, e_ar a n cI 11 ob] s.heap.size = A at hw ⊢
  obtain ⟨hx, hb, hml, hown, hts⟩ := id E
  unfold wp_Pak_addSingle at h
  refine lv_aload_n hx hb d_Pak_addSingle_0 rfl (lv_at hl 0 rfl) ?_
  refine lv_dup hx hb d_Pak_addSingle_1 rfl ?_
  refine kget (v := .int Pak_singles) (T := F_Pak) E hw in_Pak rfl 1 3 rfl (by decide) tw192 rfl d_Pak_addSingle_2 ?_
  refine lv_iconst (v := 1) hx hb d_Pak_addSingle_5 (by decide) ?_
  refine lv_iadd hx hb d_Pak_addSingle_6 ?_
  refine lv_topi (fun z1 ez1 => ?_)
  have h := h z1 ez1
  refine kput (v := .int z1) (ty := .int) (T := F_Pak) (ws' := [e_Out a Out_size Out_gathered Out_gatheredBits, e_Pak a z1 Pak_runs Pak_longest, e_ar a n cI 11 ob]) E hw in_Pak t_Pak t_Pak_ok n_Pak rfl 1 3 rfl (by decide) tw192 rfl rfl rfl rfl (Nat.le_of_ble_eq_true rfl) rfl d_Pak_addSingle_7 (fun H locs hw => ?_)
  refine lv_iload_n hx hb d_Pak_addSingle_10 rfl (lv_at hl 1 rfl) ?_
  refine lv_sipush (v := 144) hx hb d_Pak_addSingle_11 (by decide) ?_
  refine lv_icmp_ge (tgt := 33) hx hb d_Pak_addSingle_14 (by decide) (fun c2 => ?_) (fun c2 => ?_)
  · have h := h.1 c2
    refine lv_aload_n hx hb d_Pak_addSingle_33 rfl (lv_at hl 0 rfl) ?_
    refine kget (v := .ref (a 3)) (T := F_Pak) E hw in_Pak rfl 1 1 rfl (by decide) tw190 rfl d_Pak_addSingle_34 ?_
    refine lv_sipush (v := 400) hx hb d_Pak_addSingle_37 (by decide) ?_
    refine lv_iload_n hx hb d_Pak_addSingle_40 rfl (lv_at hl 1 rfl) ?_
    refine lv_iadd hx hb d_Pak_addSingle_41 ?_
    refine lv_sipush (v := 144) hx hb d_Pak_addSingle_42 (by decide) ?_
    refine lv_isub hx hb d_Pak_addSingle_45 ?_
    refine lv_bipush (v := 9) hx hb d_Pak_addSingle_46 (by decide) ?_
    refine kVv (y := y_Out_addBitsHighestFirst) (ws' := fun u3 => [e_Out a u3.1 u3.2.1 u3.2.2.1, e_Pak a z1 Pak_runs Pak_longest, e_ar a n cI 11 u3.2.2.2]) (wr := [e_Pak a z1 Pak_runs Pak_longest]) (As := [.int ((400 + x1) - 144), .int 9]) (rest := []) E hw (c_Out_addBitsHighestFirst (l := l) (dC := dC) (dI := dI) (cI := cI) (tb := tb) (a := a) (n := n) (Out_size := Out_size) (Out_gathered := Out_gathered) (Out_gatheredBits := Out_gatheredBits) (ob := ob) (x1 := (400 + x1) - 144) (x2 := 9) h) tw390 tw391 tw392 tw40 tw393 2 (by decide) ⟨Nat.le_of_ble_eq_true rfl, Nat.le_of_ble_eq_true rfl⟩ ⟨Nat.le_of_ble_eq_true rfl, Nat.le_of_ble_eq_true rfl⟩ ⟨rfl, rfl⟩ rfl rfl 0 rfl [0, 2] [1] [1, 0, 2] rfl rfl rfl rfl (by decide) rfl (fun _ => rfl) hl.1 rfl rfl (Nat.le_of_ble_eq_true rfl) d_Pak_addSingle_48 (fun u3 H locs h hw => ?_)
    exact retV (out := fun u => [e_Out a u.1 u.2.1 u.2.2.1, e_Pak a u.2.2.2.1 Pak_runs Pak_longest, e_ar a n cI 11 u.2.2.2.2]) (u := (u3.1, u3.2.1, u3.2.2.1, z1, u3.2.2.2)) E hr hlk hw h d_Pak_addSingle_51
  · have h := h.2 c2
    refine lv_aload_n hx hb d_Pak_addSingle_17 rfl (lv_at hl 0 rfl) ?_
    refine kget (v := .ref (a 3)) (T := F_Pak) E hw in_Pak rfl 1 1 rfl (by decide) tw190 rfl d_Pak_addSingle_18 ?_
    refine lv_bipush (v := 48) hx hb d_Pak_addSingle_21 (by decide) ?_
    refine lv_iload_n hx hb d_Pak_addSingle_23 rfl (lv_at hl 1 rfl) ?_
    refine lv_iadd hx hb d_Pak_addSingle_24 ?_
    refine lv_bipush (v := 8) hx hb d_Pak_addSingle_25 (by decide) ?_
    refine kVv (y := y_Out_addBitsHighestFirst) (ws' := fun u5 => [e_Out a u5.1 u5.2.1 u5.2.2.1, e_Pak a z1 Pak_runs Pak_longest, e_ar a n cI 11 u5.2.2.2]) (wr := [e_Pak a z1 Pak_runs Pak_longest]) (As := [.int (48 + x1), .int 8]) (rest := []) E hw (c_Out_addBitsHighestFirst (l := l) (dC := dC) (dI := dI) (cI := cI) (tb := tb) (a := a) (n := n) (Out_size := Out_size) (Out_gathered := Out_gathered) (Out_gatheredBits := Out_gatheredBits) (ob := ob) (x1 := 48 + x1) (x2 := 8) h) tw390 tw391 tw392 tw40 tw393 2 (by decide) ⟨Nat.le_of_ble_eq_true rfl, Nat.le_of_ble_eq_true rfl⟩ ⟨Nat.le_of_ble_eq_true rfl, Nat.le_of_ble_eq_true rfl⟩ ⟨rfl, rfl⟩ rfl rfl 0 rfl [0, 2] [1] [1, 0, 2] rfl rfl rfl rfl (by decide) rfl (fun _ => rfl) hl.1 rfl rfl (Nat.le_of_ble_eq_true rfl) d_Pak_addSingle_27 (fun u5 H locs h hw => ?_)
    refine lv_goto (tgt := 51) hx hb d_Pak_addSingle_30 (by decide) ?_
    exact retV (out := fun u => [e_Out a u.1 u.2.1 u.2.2.1, e_Pak a u.2.2.2.1 Pak_runs Pak_longest, e_ar a n cI 11 u.2.2.2.2]) (u := (u5.1, u5.2.1, u5.2.2.1, z1, u5.2.2.2)) E hr hlk hw h d_Pak_addSingle_51
-- PicturePacker$Packer.addLongLength(I)V
theorem d_Pak_addLongLength_0 : decode prog_4_method_6_code 0 = .ok (.iconst 1, 1) := by decide +kernel
theorem d_Pak_addLongLength_1 : decode prog_4_method_6_code 1 = .ok (.istore_n 2, 1) := by decide +kernel
theorem d_Pak_addLongLength_2 : decode prog_4_method_6_code 2 = .ok (.bipush 11, 2) := by decide +kernel
theorem d_Pak_addLongLength_4 : decode prog_4_method_6_code 4 = .ok (.istore_n 3, 1) := by decide +kernel
theorem d_Pak_addLongLength_5 : decode prog_4_method_6_code 5 = .ok (.iload_n 2, 1) := by decide +kernel
theorem d_Pak_addLongLength_6 : decode prog_4_method_6_code 6 = .ok (.iconst 5, 1) := by decide +kernel
theorem d_Pak_addLongLength_7 : decode prog_4_method_6_code 7 = .ok (.if_icmp .ge 24, 3) := by decide +kernel
theorem d_Pak_addLongLength_10 : decode prog_4_method_6_code 10 = .ok (.iload_n 1, 1) := by decide +kernel
theorem d_Pak_addLongLength_11 : decode prog_4_method_6_code 11 = .ok (.iload_n 3, 1) := by decide +kernel
theorem d_Pak_addLongLength_12 : decode prog_4_method_6_code 12 = .ok (.iconst 4, 1) := by decide +kernel
theorem d_Pak_addLongLength_13 : decode prog_4_method_6_code 13 = .ok (.iload_n 2, 1) := by decide +kernel
theorem d_Pak_addLongLength_14 : decode prog_4_method_6_code 14 = .ok (.ishl, 1) := by decide +kernel
theorem d_Pak_addLongLength_15 : decode prog_4_method_6_code 15 = .ok (.iadd, 1) := by decide +kernel
theorem d_Pak_addLongLength_16 : decode prog_4_method_6_code 16 = .ok (.if_icmp .lt 15, 3) := by decide +kernel
theorem d_Pak_addLongLength_19 : decode prog_4_method_6_code 19 = .ok (.iload_n 3, 1) := by decide +kernel
theorem d_Pak_addLongLength_20 : decode prog_4_method_6_code 20 = .ok (.iconst 4, 1) := by decide +kernel
theorem d_Pak_addLongLength_21 : decode prog_4_method_6_code 21 = .ok (.iload_n 2, 1) := by decide +kernel
theorem d_Pak_addLongLength_22 : decode prog_4_method_6_code 22 = .ok (.ishl, 1) := by decide +kernel
theorem d_Pak_addLongLength_23 : decode prog_4_method_6_code 23 = .ok (.iadd, 1) := by decide +kernel
theorem d_Pak_addLongLength_24 : decode prog_4_method_6_code 24 = .ok (.istore_n 3, 1) := by decide +kernel
theorem d_Pak_addLongLength_25 : decode prog_4_method_6_code 25 = .ok (.iinc 2 1, 3) := by decide +kernel
theorem d_Pak_addLongLength_28 : decode prog_4_method_6_code 28 = .ok (.goto (-23), 3) := by decide +kernel
theorem d_Pak_addLongLength_31 : decode prog_4_method_6_code 31 = .ok (.aload_n 0, 1) := by decide +kernel
theorem d_Pak_addLongLength_32 : decode prog_4_method_6_code 32 = .ok (.sipush 265, 3) := by decide +kernel
theorem d_Pak_addLongLength_35 : decode prog_4_method_6_code 35 = .ok (.iconst 4, 1) := by decide +kernel
theorem d_Pak_addLongLength_36 : decode prog_4_method_6_code 36 = .ok (.iload_n 2, 1) := by decide +kernel
theorem d_Pak_addLongLength_37 : decode prog_4_method_6_code 37 = .ok (.iconst 1, 1) := by decide +kernel
theorem d_Pak_addLongLength_38 : decode prog_4_method_6_code 38 = .ok (.isub, 1) := by decide +kernel
theorem d_Pak_addLongLength_39 : decode prog_4_method_6_code 39 = .ok (.imul, 1) := by decide +kernel
theorem d_Pak_addLongLength_40 : decode prog_4_method_6_code 40 = .ok (.iadd, 1) := by decide +kernel
theorem d_Pak_addLongLength_41 : decode prog_4_method_6_code 41 = .ok (.iload_n 1, 1) := by decide +kernel
theorem d_Pak_addLongLength_42 : decode prog_4_method_6_code 42 = .ok (.iload_n 3, 1) := by decide +kernel
theorem d_Pak_addLongLength_43 : decode prog_4_method_6_code 43 = .ok (.isub, 1) := by decide +kernel
theorem d_Pak_addLongLength_44 : decode prog_4_method_6_code 44 = .ok (.iload_n 2, 1) := by decide +kernel
theorem d_Pak_addLongLength_45 : decode prog_4_method_6_code 45 = .ok (.ishr, 1) := by decide +kernel
theorem d_Pak_addLongLength_46 : decode prog_4_method_6_code 46 = .ok (.iadd, 1) := by decide +kernel
theorem d_Pak_addLongLength_47 : decode prog_4_method_6_code 47 = .ok (.invokevirtual 61, 3) := by decide +kernel
theorem d_Pak_addLongLength_50 : decode prog_4_method_6_code 50 = .ok (.aload_n 0, 1) := by decide +kernel
theorem d_Pak_addLongLength_51 : decode prog_4_method_6_code 51 = .ok (.getfield 13, 3) := by decide +kernel
theorem d_Pak_addLongLength_54 : decode prog_4_method_6_code 54 = .ok (.iload_n 1, 1) := by decide +kernel
theorem d_Pak_addLongLength_55 : decode prog_4_method_6_code 55 = .ok (.iload_n 3, 1) := by decide +kernel
theorem d_Pak_addLongLength_56 : decode prog_4_method_6_code 56 = .ok (.isub, 1) := by decide +kernel
theorem d_Pak_addLongLength_57 : decode prog_4_method_6_code 57 = .ok (.iload_n 2, 1) := by decide +kernel
theorem d_Pak_addLongLength_58 : decode prog_4_method_6_code 58 = .ok (.invokevirtual 39, 3) := by decide +kernel
theorem d_Pak_addLongLength_61 : decode prog_4_method_6_code 61 = .ok (.return_, 1) := by decide +kernel
abbrev y_Pak_addLongLength : MethodName := ⟨"PicturePacker$Packer", "addLongLength", "(I)V"⟩
def wp_Pak_addLongLength_31 (n : Nat → Nat) (x1 : Int32) (post : Int32 × Int32 × Int32 × (Nat → Int32) → Prop) (Out_size : Int32) (Out_gathered : Int32) (Out_gatheredBits : Int32) (ob : Nat → Int32) (y2 : Int32) (y3 : Int32) : Prop := wp_Pak_addRunSign n Out_size Out_gathered Out_gatheredBits ob ((265 + (4 * (y2 - 1))) + ((x1 - y3 : Int32) >>> (y2 &&& 31))) (fun u2 => wp_Out_addBitsLowestFirst n u2.1 u2.2.1 u2.2.2.1 u2.2.2.2 (x1 - y3) y2 (fun u4 => post (u4.1, u4.2.1, u4.2.2.1, u4.2.2.2)))
def wp_Pak_addLongLength_5 (n : Nat → Nat) (x1 : Int32) (post : Int32 × Int32 × Int32 × (Nat → Int32) → Prop) : Nat → Int32 → Int32 → Int32 → (Nat → Int32) → Int32 → Int32 → Prop
  | 0 => fun _ _ _ _ _ _ => False
  | N + 1 => fun Out_size Out_gathered Out_gatheredBits ob y2 y3 => ((5 : Int32) ≤ y2 → (wp_Pak_addLongLength_31 n x1 post Out_size Out_gathered Out_gatheredBits ob y2 y3)) ∧ (¬ ((5 : Int32) ≤ y2) → (((x1 : Int32) < (y3 + ((4 : Int32) <<< (y2 &&& 31))) → (wp_Pak_addLongLength_31 n x1 post Out_size Out_gathered Out_gatheredBits ob y2 y3)) ∧ (¬ ((x1 : Int32) < (y3 + ((4 : Int32) <<< (y2 &&& 31)))) → (∀ z7 : Int32, z7 = (y3 + ((4 : Int32) <<< (y2 &&& 31))) → (∀ z8 : Int32, z8 = (y2 + 1) → (wp_Pak_addLongLength_5 n x1 post N Out_size Out_gathered Out_gatheredBits ob z8 z7))))))
def wp_Pak_addLongLength (n : Nat → Nat) (Out_size : Int32) (Out_gathered : Int32) (Out_gatheredBits : Int32) (ob : Nat → Int32) (x1 : Int32) (post : Int32 × Int32 × Int32 × (Nat → Int32) → Prop) : Prop := ∃ N9 : Nat, wp_Pak_addLongLength_5 n x1 post N9 Out_size Out_gathered Out_gatheredBits ob 1 11
set_option maxHeartbeats 2000000 in
set_option maxRecDepth 20000 in
theorem s_Pak_addLongLength_31 {l : Launch} {dC : Nat → ClassId} {dI : Nat → Nat → Nat} {cI : ClassId} {tb a n : Nat → Nat} {p : Program} {e : Env} {s : State} {m : MethodId} {args : Array Value} {below : List Frame} {meth : Method} {c : Code} {A : Nat → Prop} (E : CallFix p m c prog_4_method_6_code 4 s args TBL "PicturePacker$Packer") (hr : meth.sig.returnType = none) (hlk : meth.locks = false) {Pak_singles : Int32} {Pak_runs : Int32} {Pak_longest : Int32} {x1 : Int32} {post : Int32 × Int32 × Int32 × (Nat → Int32) → Prop} : ∀ (Out_size : Int32) (Out_gathered : Int32) (Out_gatheredBits : Int32) (ob : Nat → Int32) (y2 : Int32) (y3 : Int32) (H : Heap) (locs : List Loc) (ls : Array Slot), Wl classes dC dI cI tb A s H locs [e_Out a Out_size Out_gathered Out_gatheredBits, e_Pak a Pak_singles Pak_runs Pak_longest, e_ar a n cI 11 ob] → lv_has ls 4 [(0, .ref (a 5)), (1, .int x1), (2, .int y2), (3, .int y3)] → wp_Pak_addLongLength_31 n x1 post Out_size Out_gathered Out_gatheredBits ob y2 y3 → W p l e ({ frames := 5, cells := 0, slots := 0, locals := 106 }) s m args below meth c H locs 0 0 (MQ below (va_Qv post (fun u => End0 classes dC dI cI A [e_Out a u.1 u.2.1 u.2.2.1, e_Pak a Pak_singles Pak_runs Pak_longest, e_ar a n cI 11 u.2.2.2]) A) args s 0 0 A) (F0 m 31 ls []) := by
  obtain ⟨hx, hb, hml, hown, hts⟩ := id E
  intro Out_size Out_gathered Out_gatheredBits ob y2 y3 H locs ls hw hl h
  unfold wp_Pak_addLongLength_31 at h
  refine lv_aload_n hx hb d_Pak_addLongLength_31 rfl (lv_at hl 0 rfl) ?_
  refine lv_sipush (v := 265) hx hb d_Pak_addLongLength_32 (by decide) ?_
  refine lv_iconst (v := 4) hx hb d_Pak_addLongLength_35 (by decide) ?_
  refine lv_iload_n hx hb d_Pak_addLongLength_36 rfl (lv_at hl 2 rfl) ?_
  refine lv_iconst (v := 1) hx hb d_Pak_addLongLength_37 (by decide) ?_
  refine lv_isub hx hb d_Pak_addLongLength_38 ?_
  refine lv_imul hx hb d_Pak_addLongLength_39 ?_
  refine lv_iadd hx hb d_Pak_addLongLength_40 ?_
  refine lv_iload_n hx hb d_Pak_addLongLength_41 rfl (lv_at hl 1 rfl) ?_
  refine lv_iload_n hx hb d_Pak_addLongLength_42 rfl (lv_at hl 3 rfl) ?_
  refine lv_isub hx hb d_Pak_addLongLength_43 ?_
  refine lv_iload_n hx hb d_Pak_addLongLength_44 rfl (lv_at hl 2 rfl) ?_
  refine lv_ishr hx hb d_Pak_addLongLength_45 ?_
  refine lv_iadd hx hb d_Pak_addLongLength_46 ?_
  refine kVv (y := y_Pak_addRunSign) (ws' := fun u2 => [e_Out a u2.1 u2.2.1 u2.2.2.1, e_Pak a Pak_singles Pak_runs Pak_longest, e_ar a n cI 11 u2.2.2.2]) (wr := []) (As := [.int ((265 + (4 * (y2 - 1))) + ((x1 - y3 : Int32) >>> (y2 &&& 31)))]) (rest := []) E hw (c_Pak_addRunSign (l := l) (dC := dC) (dI := dI) (cI := cI) (tb := tb) (a := a) (n := n) (Out_size := Out_size) (Out_gathered := Out_gathered) (Out_gatheredBits := Out_gatheredBits) (Pak_singles := Pak_singles) (Pak_runs := Pak_runs) (Pak_longest := Pak_longest) (ob := ob) (x1 := (265 + (4 * (y2 - 1))) + ((x1 - y3 : Int32) >>> (y2 &&& 31))) h) tw386 tw388 tw12 tw42 tw389 1 (by decide) ⟨Nat.le_of_ble_eq_true rfl, Nat.le_of_ble_eq_true rfl⟩ ⟨Nat.le_of_ble_eq_true rfl, Nat.le_of_ble_eq_true rfl⟩ ⟨rfl, rfl⟩ rfl rfl 1 rfl [0, 1, 2] [] [0, 1, 2] rfl rfl rfl rfl (by decide) rfl (fun _ => rfl) hl.1 rfl rfl (Nat.le_of_ble_eq_true rfl) d_Pak_addLongLength_47 (fun u2 H locs h hw => ?_)
  refine lv_aload_n hx hb d_Pak_addLongLength_50 rfl (lv_at hl 0 rfl) ?_
  refine kget (v := .ref (a 3)) (T := F_Pak) E hw in_Pak rfl 1 1 rfl (by decide) tw190 rfl d_Pak_addLongLength_51 ?_
  refine lv_iload_n hx hb d_Pak_addLongLength_54 rfl (lv_at hl 1 rfl) ?_
  refine lv_iload_n hx hb d_Pak_addLongLength_55 rfl (lv_at hl 3 rfl) ?_
  refine lv_isub hx hb d_Pak_addLongLength_56 ?_
  refine lv_iload_n hx hb d_Pak_addLongLength_57 rfl (lv_at hl 2 rfl) ?_
  refine kVv (y := y_Out_addBitsLowestFirst) (ws' := fun u4 => [e_Out a u4.1 u4.2.1 u4.2.2.1, e_Pak a Pak_singles Pak_runs Pak_longest, e_ar a n cI 11 u4.2.2.2]) (wr := [e_Pak a Pak_singles Pak_runs Pak_longest]) (As := [.int (x1 - y3), .int y2]) (rest := []) E hw (c_Out_addBitsLowestFirst (l := l) (dC := dC) (dI := dI) (cI := cI) (tb := tb) (a := a) (n := n) (Out_size := u2.1) (Out_gathered := u2.2.1) (Out_gatheredBits := u2.2.2.1) (ob := u2.2.2.2) (x1 := x1 - y3) (x2 := y2) h) tw348 tw349 tw350 tw40 tw351 2 (by decide) ⟨Nat.le_of_ble_eq_true rfl, Nat.le_of_ble_eq_true rfl⟩ ⟨Nat.le_of_ble_eq_true rfl, Nat.le_of_ble_eq_true rfl⟩ ⟨rfl, rfl⟩ rfl rfl 0 rfl [0, 2] [1] [1, 0, 2] rfl rfl rfl rfl (by decide) rfl (fun _ => rfl) hl.1 rfl rfl (Nat.le_of_ble_eq_true rfl) d_Pak_addLongLength_58 (fun u4 H locs h hw => ?_)
  exact retV (out := fun u => [e_Out a u.1 u.2.1 u.2.2.1, e_Pak a Pak_singles Pak_runs Pak_longest, e_ar a n cI 11 u.2.2.2]) (u := (u4.1, u4.2.1, u4.2.2.1, u4.2.2.2)) E hr hlk hw h d_Pak_addLongLength_61
set_option maxHeartbeats 2000000 in
set_option maxRecDepth 20000 in
theorem s_Pak_addLongLength_5 {l : Launch} {dC : Nat → ClassId} {dI : Nat → Nat → Nat} {cI : ClassId} {tb a n : Nat → Nat} {p : Program} {e : Env} {s : State} {m : MethodId} {args : Array Value} {below : List Frame} {meth : Method} {c : Code} {A : Nat → Prop} (E : CallFix p m c prog_4_method_6_code 4 s args TBL "PicturePacker$Packer") (hr : meth.sig.returnType = none) (hlk : meth.locks = false) {Pak_singles : Int32} {Pak_runs : Int32} {Pak_longest : Int32} {x1 : Int32} {post : Int32 × Int32 × Int32 × (Nat → Int32) → Prop} : ∀ (N : Nat) (Out_size : Int32) (Out_gathered : Int32) (Out_gatheredBits : Int32) (ob : Nat → Int32) (y2 : Int32) (y3 : Int32) (H : Heap) (locs : List Loc) (ls : Array Slot), Wl classes dC dI cI tb A s H locs [e_Out a Out_size Out_gathered Out_gatheredBits, e_Pak a Pak_singles Pak_runs Pak_longest, e_ar a n cI 11 ob] → lv_has ls 4 [(0, .ref (a 5)), (1, .int x1), (2, .int y2), (3, .int y3)] → wp_Pak_addLongLength_5 n x1 post N Out_size Out_gathered Out_gatheredBits ob y2 y3 → W p l e ({ frames := 5, cells := 0, slots := 0, locals := 106 }) s m args below meth c H locs 0 0 (MQ below (va_Qv post (fun u => End0 classes dC dI cI A [e_Out a u.1 u.2.1 u.2.2.1, e_Pak a Pak_singles Pak_runs Pak_longest, e_ar a n cI 11 u.2.2.2]) A) args s 0 0 A) (F0 m 5 ls []) := by
  obtain ⟨hx, hb, hml, hown, hts⟩ := id E
  intro N
  induction N with
  | zero =>
    intro _ _ _ _ _ _ H locs ls hw hl h
    exact absurd h id
  | succ N ih =>
    intro Out_size Out_gathered Out_gatheredBits ob y2 y3 H locs ls hw hl h
    unfold wp_Pak_addLongLength_5 at h
    refine lv_iload_n hx hb d_Pak_addLongLength_5 rfl (lv_at hl 2 rfl) ?_
    refine lv_iconst (v := 5) hx hb d_Pak_addLongLength_6 (by decide) ?_
    refine lv_icmp_ge (tgt := 31) hx hb d_Pak_addLongLength_7 (by decide) (fun c1 => ?_) (fun c1 => ?_)
    · have h := h.1 c1
      exact s_Pak_addLongLength_31 (a := a) (n := n) (tb := tb) E hr hlk  Out_size Out_gathered Out_gatheredBits ob y2 y3 _ _ ls hw (lv_sub hl [0, 1, 2, 3] rfl) h
    · have h := h.2 c1
      refine lv_iload_n hx hb d_Pak_addLongLength_10 rfl (lv_at hl 1 rfl) ?_
      refine lv_iload_n hx hb d_Pak_addLongLength_11 rfl (lv_at hl 3 rfl) ?_
      refine lv_iconst (v := 4) hx hb d_Pak_addLongLength_12 (by decide) ?_
      refine lv_iload_n hx hb d_Pak_addLongLength_13 rfl (lv_at hl 2 rfl) ?_
      refine lv_ishl hx hb d_Pak_addLongLength_14 ?_
      refine lv_iadd hx hb d_Pak_addLongLength_15 ?_
      refine lv_icmp_lt (tgt := 31) hx hb d_Pak_addLongLength_16 (by decide) (fun c6 => ?_) (fun c6 => ?_)
      · have h := h.1 c6
        exact s_Pak_addLongLength_31 (a := a) (n := n) (tb := tb) E hr hlk  Out_size Out_gathered Out_gatheredBits ob y2 y3 _ _ ls hw (lv_sub hl [0, 1, 2, 3] rfl) h
      · have h := h.2 c6
        refine lv_iload_n hx hb d_Pak_addLongLength_19 rfl (lv_at hl 3 rfl) ?_
        refine lv_iconst (v := 4) hx hb d_Pak_addLongLength_20 (by decide) ?_
        refine lv_iload_n hx hb d_Pak_addLongLength_21 rfl (lv_at hl 2 rfl) ?_
        refine lv_ishl hx hb d_Pak_addLongLength_22 ?_
        refine lv_iadd hx hb d_Pak_addLongLength_23 ?_
        refine lv_topi (fun z7 ez7 => ?_)
        have h := h z7 ez7
        refine lv_istore_n (lv' := [(3, .int z7), (0, .ref (a 5)), (1, .int x1), (2, .int y2)]) hx hb d_Pak_addLongLength_24 rfl hl (by decide) rfl (fun ls hl => ?_)
        obtain ⟨z8, ez8⟩ : ∃ z : Int32, z = y2 + 1 := ⟨_, rfl⟩
        have h := h z8 ez8
        refine lv_iinc (v := z8) (lv' := [(2, .int z8), (3, .int z7), (0, .ref (a 5)), (1, .int x1)]) hx hb d_Pak_addLongLength_25 hl (k := 3) rfl (by rw [ez8]; exact congrArg (y2 + ·) (by decide)) (by decide) rfl (fun ls hl => ?_)
        refine lv_goto (tgt := 5) hx hb d_Pak_addLongLength_28 (by decide) ?_
        exact ih Out_size Out_gathered Out_gatheredBits ob z8 z7 _ _ ls hw (lv_sub hl [2, 3, 0, 1] rfl) h
set_option maxHeartbeats 2000000 in
set_option maxRecDepth 20000 in
theorem c_Pak_addLongLength {l : Launch} {dC : Nat → ClassId} {dI : Nat → Nat → Nat} {cI : ClassId} {tb a n : Nat → Nat} {Out_size : Int32} {Out_gathered : Int32} {Out_gatheredBits : Int32} {Pak_singles : Int32} {Pak_runs : Int32} {Pak_longest : Int32} {ob : Nat → Int32} {x1 : Int32} {post : Int32 × Int32 × Int32 × (Nat → Int32) → Prop} (h : wp_Pak_addLongLength n Out_size Out_gathered Out_gatheredBits ob x1 post) : CtV classes dC dI cI tb l y_Pak_addLongLength prog_4_method_6_code 4 ({ frames := 5, cells := 0, slots := 0, locals := 106 }) [.ref (a 5), .int x1] [e_Out a Out_size Out_gathered Out_gatheredBits, e_Pak a Pak_singles Pak_runs Pak_longest, e_ar a n cI 11 ob] (Int32 × Int32 × Int32 × (Nat → Int32)) (fun u => [e_Out a u.1 u.2.1 u.2.2.1, e_Pak a Pak_singles Pak_runs Pak_longest, e_ar a n cI 11 u.2.2.2]) post := by
  refine startV (by decide) (Nat.le_of_ble_eq_true rfl) ?_
  intro p e s m below meth c ls E hr hlk hnm hl hw
  have hl : lv_has ls 4 [(0, .ref (a 5)), (1, .int x1)] := hl
  generalize va_A [e_Out a Out_size Out_gathered Out_gatheredBits, e_Pak a Pak_singles Pak_runs Pak_longest, e_ar a n cI 11 ob] s.heap.size = A at hw ⊢
  obtain ⟨hx, hb, hml, hown, hts⟩ := id E
  unfold wp_Pak_addLongLength at h
  refine lv_iconst (v := 1) hx hb d_Pak_addLongLength_0 (by decide) ?_
  refine lv_istore_n (lv' := [(2, .int 1), (0, .ref (a 5)), (1, .int x1)]) hx hb d_Pak_addLongLength_1 rfl hl (by decide) rfl (fun ls hl => ?_)
  refine lv_bipush (v := 11) hx hb d_Pak_addLongLength_2 (by decide) ?_
  refine lv_istore_n (lv' := [(3, .int 11), (2, .int 1), (0, .ref (a 5)), (1, .int x1)]) hx hb d_Pak_addLongLength_4 rfl hl (by decide) rfl (fun ls hl => ?_)
  obtain ⟨N9, h⟩ := h
  exact s_Pak_addLongLength_5 (a := a) (n := n) (tb := tb) E hr hlk  N9 Out_size Out_gathered Out_gatheredBits ob 1 11 _ _ ls hw (lv_sub hl [2, 3, 1, 0] rfl) h
-- PicturePacker$Packer.addLength(I)V
theorem d_Pak_addLength_0 : decode prog_4_method_5_code 0 = .ok (.iload_n 1, 1) := by decide +kernel
theorem d_Pak_addLength_1 : decode prog_4_method_5_code 1 = .ok (.bipush 11, 2) := by decide +kernel
theorem d_Pak_addLength_3 : decode prog_4_method_5_code 3 = .ok (.if_icmp .ge 17, 3) := by decide +kernel
theorem d_Pak_addLength_6 : decode prog_4_method_5_code 6 = .ok (.aload_n 0, 1) := by decide +kernel
theorem d_Pak_addLength_7 : decode prog_4_method_5_code 7 = .ok (.sipush 257, 3) := by decide +kernel
theorem d_Pak_addLength_10 : decode prog_4_method_5_code 10 = .ok (.iload_n 1, 1) := by decide +kernel
theorem d_Pak_addLength_11 : decode prog_4_method_5_code 11 = .ok (.iadd, 1) := by decide +kernel
theorem d_Pak_addLength_12 : decode prog_4_method_5_code 12 = .ok (.iconst 3, 1) := by decide +kernel
theorem d_Pak_addLength_13 : decode prog_4_method_5_code 13 = .ok (.isub, 1) := by decide +kernel
theorem d_Pak_addLength_14 : decode prog_4_method_5_code 14 = .ok (.invokevirtual 61, 3) := by decide +kernel
theorem d_Pak_addLength_17 : decode prog_4_method_5_code 17 = .ok (.goto 25, 3) := by decide +kernel
theorem d_Pak_addLength_20 : decode prog_4_method_5_code 20 = .ok (.iload_n 1, 1) := by decide +kernel
theorem d_Pak_addLength_21 : decode prog_4_method_5_code 21 = .ok (.sipush 258, 3) := by decide +kernel
theorem d_Pak_addLength_24 : decode prog_4_method_5_code 24 = .ok (.if_icmp .ne 13, 3) := by decide +kernel
theorem d_Pak_addLength_27 : decode prog_4_method_5_code 27 = .ok (.aload_n 0, 1) := by decide +kernel
theorem d_Pak_addLength_28 : decode prog_4_method_5_code 28 = .ok (.sipush 285, 3) := by decide +kernel
theorem d_Pak_addLength_31 : decode prog_4_method_5_code 31 = .ok (.invokevirtual 61, 3) := by decide +kernel
theorem d_Pak_addLength_34 : decode prog_4_method_5_code 34 = .ok (.goto 8, 3) := by decide +kernel
theorem d_Pak_addLength_37 : decode prog_4_method_5_code 37 = .ok (.aload_n 0, 1) := by decide +kernel
theorem d_Pak_addLength_38 : decode prog_4_method_5_code 38 = .ok (.iload_n 1, 1) := by decide +kernel
theorem d_Pak_addLength_39 : decode prog_4_method_5_code 39 = .ok (.invokevirtual 82, 3) := by decide +kernel
theorem d_Pak_addLength_42 : decode prog_4_method_5_code 42 = .ok (.return_, 1) := by decide +kernel
abbrev y_Pak_addLength : MethodName := ⟨"PicturePacker$Packer", "addLength", "(I)V"⟩
def wp_Pak_addLength (n : Nat → Nat) (Out_size : Int32) (Out_gathered : Int32) (Out_gatheredBits : Int32) (ob : Nat → Int32) (x1 : Int32) (post : Int32 × Int32 × Int32 × (Nat → Int32) → Prop) : Prop := ((11 : Int32) ≤ x1 → ((¬ (x1 : Int32) = 258 → (wp_Pak_addLongLength n Out_size Out_gathered Out_gatheredBits ob x1 (fun u3 => post (u3.1, u3.2.1, u3.2.2.1, u3.2.2.2)))) ∧ ((x1 : Int32) = 258 → (wp_Pak_addRunSign n Out_size Out_gathered Out_gatheredBits ob 285 (fun u5 => post (u5.1, u5.2.1, u5.2.2.1, u5.2.2.2)))))) ∧ (¬ ((11 : Int32) ≤ x1) → (wp_Pak_addRunSign n Out_size Out_gathered Out_gatheredBits ob ((257 + x1) - 3) (fun u7 => post (u7.1, u7.2.1, u7.2.2.1, u7.2.2.2))))
set_option maxHeartbeats 2000000 in
set_option maxRecDepth 20000 in
theorem c_Pak_addLength {l : Launch} {dC : Nat → ClassId} {dI : Nat → Nat → Nat} {cI : ClassId} {tb a n : Nat → Nat} {Out_size : Int32} {Out_gathered : Int32} {Out_gatheredBits : Int32} {Pak_singles : Int32} {Pak_runs : Int32} {Pak_longest : Int32} {ob : Nat → Int32} {x1 : Int32} {post : Int32 × Int32 × Int32 × (Nat → Int32) → Prop} (h : wp_Pak_addLength n Out_size Out_gathered Out_gatheredBits ob x1 post) : CtV classes dC dI cI tb l y_Pak_addLength prog_4_method_5_code 2 ({ frames := 6, cells := 0, slots := 0, locals := 129 }) [.ref (a 5), .int x1] [e_Out a Out_size Out_gathered Out_gatheredBits, e_Pak a Pak_singles Pak_runs Pak_longest, e_ar a n cI 11 ob] (Int32 × Int32 × Int32 × (Nat → Int32)) (fun u => [e_Out a u.1 u.2.1 u.2.2.1, e_Pak a Pak_singles Pak_runs Pak_longest, e_ar a n cI 11 u.2.2.2]) post := by
  refine startV (by decide) (Nat.le_of_ble_eq_true rfl) ?_
  intro p e s m below meth c ls E hr hlk hnm hl hw
  have hl : lv_has ls 2 [(0, .ref (a 5)), (1, .int x1)] := hl
  generalize va_A [e_Out a Out_size Out_gathered Out_gatheredBits, e_Pak a Pak_singles Pak_runs Pak_longest, e_ar a n cI 11 ob] s.heap.size = A at hw ⊢
  obtain ⟨hx, hb, hml, hown, hts⟩ := id E
  unfold wp_Pak_addLength at h
  refine lv_iload_n hx hb d_Pak_addLength_0 rfl (lv_at hl 1 rfl) ?_
  refine lv_bipush (v := 11) hx hb d_Pak_addLength_1 (by decide) ?_
  refine lv_icmp_ge (tgt := 20) hx hb d_Pak_addLength_3 (by decide) (fun c1 => ?_) (fun c1 => ?_)
  · have h := h.1 c1
    refine lv_iload_n hx hb d_Pak_addLength_20 rfl (lv_at hl 1 rfl) ?_
    refine lv_sipush (v := 258) hx hb d_Pak_addLength_21 (by decide) ?_
    refine lv_icmp_ne (tgt := 37) hx hb d_Pak_addLength_24 (by decide) (fun c2 => ?_) (fun c2 => ?_)
    · have h := h.1 c2
      refine lv_aload_n hx hb d_Pak_addLength_37 rfl (lv_at hl 0 rfl) ?_
      refine lv_iload_n hx hb d_Pak_addLength_38 rfl (lv_at hl 1 rfl) ?_
      refine kVv (y := y_Pak_addLongLength) (ws' := fun u3 => [e_Out a u3.1 u3.2.1 u3.2.2.1, e_Pak a Pak_singles Pak_runs Pak_longest, e_ar a n cI 11 u3.2.2.2]) (wr := []) (As := [.int x1]) (rest := []) E hw (c_Pak_addLongLength (l := l) (dC := dC) (dI := dI) (cI := cI) (tb := tb) (a := a) (n := n) (Out_size := Out_size) (Out_gathered := Out_gathered) (Out_gatheredBits := Out_gatheredBits) (Pak_singles := Pak_singles) (Pak_runs := Pak_runs) (Pak_longest := Pak_longest) (ob := ob) (x1 := x1) h) tw394 tw396 tw13 tw42 tw397 1 (by decide) ⟨Nat.le_of_ble_eq_true rfl, Nat.le_of_ble_eq_true rfl⟩ ⟨Nat.le_of_ble_eq_true rfl, Nat.le_of_ble_eq_true rfl⟩ ⟨rfl, rfl⟩ rfl rfl 1 rfl [0, 1, 2] [] [0, 1, 2] rfl rfl rfl rfl (by decide) rfl (fun _ => rfl) hl.1 rfl rfl (Nat.le_of_ble_eq_true rfl) d_Pak_addLength_39 (fun u3 H locs h hw => ?_)
      exact retV (out := fun u => [e_Out a u.1 u.2.1 u.2.2.1, e_Pak a Pak_singles Pak_runs Pak_longest, e_ar a n cI 11 u.2.2.2]) (u := (u3.1, u3.2.1, u3.2.2.1, u3.2.2.2)) E hr hlk hw h d_Pak_addLength_42
    · have h := h.2 c2
      refine lv_aload_n hx hb d_Pak_addLength_27 rfl (lv_at hl 0 rfl) ?_
      refine lv_sipush (v := 285) hx hb d_Pak_addLength_28 (by decide) ?_
      refine kVv (y := y_Pak_addRunSign) (ws' := fun u5 => [e_Out a u5.1 u5.2.1 u5.2.2.1, e_Pak a Pak_singles Pak_runs Pak_longest, e_ar a n cI 11 u5.2.2.2]) (wr := []) (As := [.int 285]) (rest := []) E hw (c_Pak_addRunSign (l := l) (dC := dC) (dI := dI) (cI := cI) (tb := tb) (a := a) (n := n) (Out_size := Out_size) (Out_gathered := Out_gathered) (Out_gatheredBits := Out_gatheredBits) (Pak_singles := Pak_singles) (Pak_runs := Pak_runs) (Pak_longest := Pak_longest) (ob := ob) (x1 := 285) h) tw386 tw388 tw12 tw42 tw389 1 (by decide) ⟨Nat.le_of_ble_eq_true rfl, Nat.le_of_ble_eq_true rfl⟩ ⟨Nat.le_of_ble_eq_true rfl, Nat.le_of_ble_eq_true rfl⟩ ⟨rfl, rfl⟩ rfl rfl 1 rfl [0, 1, 2] [] [0, 1, 2] rfl rfl rfl rfl (by decide) rfl (fun _ => rfl) hl.1 rfl rfl (Nat.le_of_ble_eq_true rfl) d_Pak_addLength_31 (fun u5 H locs h hw => ?_)
      refine lv_goto (tgt := 42) hx hb d_Pak_addLength_34 (by decide) ?_
      exact retV (out := fun u => [e_Out a u.1 u.2.1 u.2.2.1, e_Pak a Pak_singles Pak_runs Pak_longest, e_ar a n cI 11 u.2.2.2]) (u := (u5.1, u5.2.1, u5.2.2.1, u5.2.2.2)) E hr hlk hw h d_Pak_addLength_42
  · have h := h.2 c1
    refine lv_aload_n hx hb d_Pak_addLength_6 rfl (lv_at hl 0 rfl) ?_
    refine lv_sipush (v := 257) hx hb d_Pak_addLength_7 (by decide) ?_
    refine lv_iload_n hx hb d_Pak_addLength_10 rfl (lv_at hl 1 rfl) ?_
    refine lv_iadd hx hb d_Pak_addLength_11 ?_
    refine lv_iconst (v := 3) hx hb d_Pak_addLength_12 (by decide) ?_
    refine lv_isub hx hb d_Pak_addLength_13 ?_
    refine kVv (y := y_Pak_addRunSign) (ws' := fun u7 => [e_Out a u7.1 u7.2.1 u7.2.2.1, e_Pak a Pak_singles Pak_runs Pak_longest, e_ar a n cI 11 u7.2.2.2]) (wr := []) (As := [.int ((257 + x1) - 3)]) (rest := []) E hw (c_Pak_addRunSign (l := l) (dC := dC) (dI := dI) (cI := cI) (tb := tb) (a := a) (n := n) (Out_size := Out_size) (Out_gathered := Out_gathered) (Out_gatheredBits := Out_gatheredBits) (Pak_singles := Pak_singles) (Pak_runs := Pak_runs) (Pak_longest := Pak_longest) (ob := ob) (x1 := (257 + x1) - 3) h) tw386 tw388 tw12 tw42 tw389 1 (by decide) ⟨Nat.le_of_ble_eq_true rfl, Nat.le_of_ble_eq_true rfl⟩ ⟨Nat.le_of_ble_eq_true rfl, Nat.le_of_ble_eq_true rfl⟩ ⟨rfl, rfl⟩ rfl rfl 1 rfl [0, 1, 2] [] [0, 1, 2] rfl rfl rfl rfl (by decide) rfl (fun _ => rfl) hl.1 rfl rfl (Nat.le_of_ble_eq_true rfl) d_Pak_addLength_14 (fun u7 H locs h hw => ?_)
    refine lv_goto (tgt := 42) hx hb d_Pak_addLength_17 (by decide) ?_
    exact retV (out := fun u => [e_Out a u.1 u.2.1 u.2.2.1, e_Pak a Pak_singles Pak_runs Pak_longest, e_ar a n cI 11 u.2.2.2]) (u := (u7.1, u7.2.1, u7.2.2.1, u7.2.2.2)) E hr hlk hw h d_Pak_addLength_42
-- PicturePacker$Packer.addDistance(I)V
theorem d_Pak_addDistance_0 : decode prog_4_method_7_code 0 = .ok (.iload_n 1, 1) := by decide +kernel
theorem d_Pak_addDistance_1 : decode prog_4_method_7_code 1 = .ok (.iconst 5, 1) := by decide +kernel
theorem d_Pak_addDistance_2 : decode prog_4_method_7_code 2 = .ok (.if_icmp .ge 15, 3) := by decide +kernel
theorem d_Pak_addDistance_5 : decode prog_4_method_7_code 5 = .ok (.aload_n 0, 1) := by decide +kernel
theorem d_Pak_addDistance_6 : decode prog_4_method_7_code 6 = .ok (.getfield 13, 3) := by decide +kernel
theorem d_Pak_addDistance_9 : decode prog_4_method_7_code 9 = .ok (.iload_n 1, 1) := by decide +kernel
theorem d_Pak_addDistance_10 : decode prog_4_method_7_code 10 = .ok (.iconst 1, 1) := by decide +kernel
theorem d_Pak_addDistance_11 : decode prog_4_method_7_code 11 = .ok (.isub, 1) := by decide +kernel
theorem d_Pak_addDistance_12 : decode prog_4_method_7_code 12 = .ok (.iconst 5, 1) := by decide +kernel
theorem d_Pak_addDistance_13 : decode prog_4_method_7_code 13 = .ok (.invokevirtual 67, 3) := by decide +kernel
theorem d_Pak_addDistance_16 : decode prog_4_method_7_code 16 = .ok (.return_, 1) := by decide +kernel
theorem d_Pak_addDistance_17 : decode prog_4_method_7_code 17 = .ok (.iconst 1, 1) := by decide +kernel
theorem d_Pak_addDistance_18 : decode prog_4_method_7_code 18 = .ok (.istore_n 2, 1) := by decide +kernel
theorem d_Pak_addDistance_19 : decode prog_4_method_7_code 19 = .ok (.iconst 5, 1) := by decide +kernel
theorem d_Pak_addDistance_20 : decode prog_4_method_7_code 20 = .ok (.istore_n 3, 1) := by decide +kernel
theorem d_Pak_addDistance_21 : decode prog_4_method_7_code 21 = .ok (.iload_n 2, 1) := by decide +kernel
theorem d_Pak_addDistance_22 : decode prog_4_method_7_code 22 = .ok (.bipush 13, 2) := by decide +kernel
theorem d_Pak_addDistance_24 : decode prog_4_method_7_code 24 = .ok (.if_icmp .ge 24, 3) := by decide +kernel
theorem d_Pak_addDistance_27 : decode prog_4_method_7_code 27 = .ok (.iload_n 1, 1) := by decide +kernel
theorem d_Pak_addDistance_28 : decode prog_4_method_7_code 28 = .ok (.iload_n 3, 1) := by decide +kernel
theorem d_Pak_addDistance_29 : decode prog_4_method_7_code 29 = .ok (.iconst 2, 1) := by decide +kernel
theorem d_Pak_addDistance_30 : decode prog_4_method_7_code 30 = .ok (.iload_n 2, 1) := by decide +kernel
theorem d_Pak_addDistance_31 : decode prog_4_method_7_code 31 = .ok (.ishl, 1) := by decide +kernel
theorem d_Pak_addDistance_32 : decode prog_4_method_7_code 32 = .ok (.iadd, 1) := by decide +kernel
theorem d_Pak_addDistance_33 : decode prog_4_method_7_code 33 = .ok (.if_icmp .lt 15, 3) := by decide +kernel
theorem d_Pak_addDistance_36 : decode prog_4_method_7_code 36 = .ok (.iload_n 3, 1) := by decide +kernel
theorem d_Pak_addDistance_37 : decode prog_4_method_7_code 37 = .ok (.iconst 2, 1) := by decide +kernel
theorem d_Pak_addDistance_38 : decode prog_4_method_7_code 38 = .ok (.iload_n 2, 1) := by decide +kernel
theorem d_Pak_addDistance_39 : decode prog_4_method_7_code 39 = .ok (.ishl, 1) := by decide +kernel
theorem d_Pak_addDistance_40 : decode prog_4_method_7_code 40 = .ok (.iadd, 1) := by decide +kernel
theorem d_Pak_addDistance_41 : decode prog_4_method_7_code 41 = .ok (.istore_n 3, 1) := by decide +kernel
theorem d_Pak_addDistance_42 : decode prog_4_method_7_code 42 = .ok (.iinc 2 1, 3) := by decide +kernel
theorem d_Pak_addDistance_45 : decode prog_4_method_7_code 45 = .ok (.goto (-24), 3) := by decide +kernel
theorem d_Pak_addDistance_48 : decode prog_4_method_7_code 48 = .ok (.aload_n 0, 1) := by decide +kernel
theorem d_Pak_addDistance_49 : decode prog_4_method_7_code 49 = .ok (.getfield 13, 3) := by decide +kernel
theorem d_Pak_addDistance_52 : decode prog_4_method_7_code 52 = .ok (.iconst 4, 1) := by decide +kernel
theorem d_Pak_addDistance_53 : decode prog_4_method_7_code 53 = .ok (.iconst 2, 1) := by decide +kernel
theorem d_Pak_addDistance_54 : decode prog_4_method_7_code 54 = .ok (.iload_n 2, 1) := by decide +kernel
theorem d_Pak_addDistance_55 : decode prog_4_method_7_code 55 = .ok (.iconst 1, 1) := by decide +kernel
theorem d_Pak_addDistance_56 : decode prog_4_method_7_code 56 = .ok (.isub, 1) := by decide +kernel
theorem d_Pak_addDistance_57 : decode prog_4_method_7_code 57 = .ok (.imul, 1) := by decide +kernel
theorem d_Pak_addDistance_58 : decode prog_4_method_7_code 58 = .ok (.iadd, 1) := by decide +kernel
theorem d_Pak_addDistance_59 : decode prog_4_method_7_code 59 = .ok (.iload_n 1, 1) := by decide +kernel
theorem d_Pak_addDistance_60 : decode prog_4_method_7_code 60 = .ok (.iload_n 3, 1) := by decide +kernel
theorem d_Pak_addDistance_61 : decode prog_4_method_7_code 61 = .ok (.isub, 1) := by decide +kernel
theorem d_Pak_addDistance_62 : decode prog_4_method_7_code 62 = .ok (.iload_n 2, 1) := by decide +kernel
theorem d_Pak_addDistance_63 : decode prog_4_method_7_code 63 = .ok (.ishr, 1) := by decide +kernel
theorem d_Pak_addDistance_64 : decode prog_4_method_7_code 64 = .ok (.iadd, 1) := by decide +kernel
theorem d_Pak_addDistance_65 : decode prog_4_method_7_code 65 = .ok (.iconst 5, 1) := by decide +kernel
theorem d_Pak_addDistance_66 : decode prog_4_method_7_code 66 = .ok (.invokevirtual 67, 3) := by decide +kernel
theorem d_Pak_addDistance_69 : decode prog_4_method_7_code 69 = .ok (.aload_n 0, 1) := by decide +kernel
theorem d_Pak_addDistance_70 : decode prog_4_method_7_code 70 = .ok (.getfield 13, 3) := by decide +kernel
theorem d_Pak_addDistance_73 : decode prog_4_method_7_code 73 = .ok (.iload_n 1, 1) := by decide +kernel
theorem d_Pak_addDistance_74 : decode prog_4_method_7_code 74 = .ok (.iload_n 3, 1) := by decide +kernel
theorem d_Pak_addDistance_75 : decode prog_4_method_7_code 75 = .ok (.isub, 1) := by decide +kernel
theorem d_Pak_addDistance_76 : decode prog_4_method_7_code 76 = .ok (.iload_n 2, 1) := by decide +kernel
theorem d_Pak_addDistance_77 : decode prog_4_method_7_code 77 = .ok (.invokevirtual 39, 3) := by decide +kernel
theorem d_Pak_addDistance_80 : decode prog_4_method_7_code 80 = .ok (.return_, 1) := by decide +kernel
abbrev y_Pak_addDistance : MethodName := ⟨"PicturePacker$Packer", "addDistance", "(I)V"⟩
def wp_Pak_addDistance_48 (n : Nat → Nat) (x1 : Int32) (post : Int32 × Int32 × Int32 × (Nat → Int32) → Prop) (Out_size : Int32) (Out_gathered : Int32) (Out_gatheredBits : Int32) (ob : Nat → Int32) (y2 : Int32) (y3 : Int32) : Prop := wp_Out_addBitsHighestFirst n Out_size Out_gathered Out_gatheredBits ob ((4 + (2 * (y2 - 1))) + ((x1 - y3 : Int32) >>> (y2 &&& 31))) 5 (fun u3 => wp_Out_addBitsLowestFirst n u3.1 u3.2.1 u3.2.2.1 u3.2.2.2 (x1 - y3) y2 (fun u5 => post (u5.1, u5.2.1, u5.2.2.1, u5.2.2.2)))
def wp_Pak_addDistance_21 (n : Nat → Nat) (x1 : Int32) (post : Int32 × Int32 × Int32 × (Nat → Int32) → Prop) : Nat → Int32 → Int32 → Int32 → (Nat → Int32) → Int32 → Int32 → Prop
  | 0 => fun _ _ _ _ _ _ => False
  | N + 1 => fun Out_size Out_gathered Out_gatheredBits ob y2 y3 => ((13 : Int32) ≤ y2 → (wp_Pak_addDistance_48 n x1 post Out_size Out_gathered Out_gatheredBits ob y2 y3)) ∧ (¬ ((13 : Int32) ≤ y2) → (((x1 : Int32) < (y3 + ((2 : Int32) <<< (y2 &&& 31))) → (wp_Pak_addDistance_48 n x1 post Out_size Out_gathered Out_gatheredBits ob y2 y3)) ∧ (¬ ((x1 : Int32) < (y3 + ((2 : Int32) <<< (y2 &&& 31)))) → (∀ z8 : Int32, z8 = (y3 + ((2 : Int32) <<< (y2 &&& 31))) → (∀ z9 : Int32, z9 = (y2 + 1) → (wp_Pak_addDistance_21 n x1 post N Out_size Out_gathered Out_gatheredBits ob z9 z8))))))
def wp_Pak_addDistance (n : Nat → Nat) (Out_size : Int32) (Out_gathered : Int32) (Out_gatheredBits : Int32) (ob : Nat → Int32) (x1 : Int32) (post : Int32 × Int32 × Int32 × (Nat → Int32) → Prop) : Prop := ((5 : Int32) ≤ x1 → (∃ N10 : Nat, wp_Pak_addDistance_21 n x1 post N10 Out_size Out_gathered Out_gatheredBits ob 1 5)) ∧ (¬ ((5 : Int32) ≤ x1) → (wp_Out_addBitsHighestFirst n Out_size Out_gathered Out_gatheredBits ob (x1 - 1) 5 (fun u11 => post (u11.1, u11.2.1, u11.2.2.1, u11.2.2.2))))
set_option maxHeartbeats 2000000 in
set_option maxRecDepth 20000 in
theorem s_Pak_addDistance_48 {l : Launch} {dC : Nat → ClassId} {dI : Nat → Nat → Nat} {cI : ClassId} {tb a n : Nat → Nat} {p : Program} {e : Env} {s : State} {m : MethodId} {args : Array Value} {below : List Frame} {meth : Method} {c : Code} {A : Nat → Prop} (E : CallFix p m c prog_4_method_7_code 4 s args TBL "PicturePacker$Packer") (hr : meth.sig.returnType = none) (hlk : meth.locks = false) {Pak_singles : Int32} {Pak_runs : Int32} {Pak_longest : Int32} {x1 : Int32} {post : Int32 × Int32 × Int32 × (Nat → Int32) → Prop} : ∀ (Out_size : Int32) (Out_gathered : Int32) (Out_gatheredBits : Int32) (ob : Nat → Int32) (y2 : Int32) (y3 : Int32) (H : Heap) (locs : List Loc) (ls : Array Slot), Wl classes dC dI cI tb A s H locs [e_Out a Out_size Out_gathered Out_gatheredBits, e_Pak a Pak_singles Pak_runs Pak_longest, e_ar a n cI 11 ob] → lv_has ls 4 [(0, .ref (a 5)), (1, .int x1), (2, .int y2), (3, .int y3)] → wp_Pak_addDistance_48 n x1 post Out_size Out_gathered Out_gatheredBits ob y2 y3 → W p l e ({ frames := 4, cells := 0, slots := 0, locals := 85 }) s m args below meth c H locs 0 0 (MQ below (va_Qv post (fun u => End0 classes dC dI cI A [e_Out a u.1 u.2.1 u.2.2.1, e_Pak a Pak_singles Pak_runs Pak_longest, e_ar a n cI 11 u.2.2.2]) A) args s 0 0 A) (F0 m 48 ls []) := by
  obtain ⟨hx, hb, hml, hown, hts⟩ := id E
  intro Out_size Out_gathered Out_gatheredBits ob y2 y3 H locs ls hw hl h
  unfold wp_Pak_addDistance_48 at h
  refine lv_aload_n hx hb d_Pak_addDistance_48 rfl (lv_at hl 0 rfl) ?_
  refine kget (v := .ref (a 3)) (T := F_Pak) E hw in_Pak rfl 1 1 rfl (by decide) tw190 rfl d_Pak_addDistance_49 ?_
  refine lv_iconst (v := 4) hx hb d_Pak_addDistance_52 (by decide) ?_
  refine lv_iconst (v := 2) hx hb d_Pak_addDistance_53 (by decide) ?_
  refine lv_iload_n hx hb d_Pak_addDistance_54 rfl (lv_at hl 2 rfl) ?_
  refine lv_iconst (v := 1) hx hb d_Pak_addDistance_55 (by decide) ?_
  refine lv_isub hx hb d_Pak_addDistance_56 ?_
  refine lv_imul hx hb d_Pak_addDistance_57 ?_
  refine lv_iadd hx hb d_Pak_addDistance_58 ?_
  refine lv_iload_n hx hb d_Pak_addDistance_59 rfl (lv_at hl 1 rfl) ?_
  refine lv_iload_n hx hb d_Pak_addDistance_60 rfl (lv_at hl 3 rfl) ?_
  refine lv_isub hx hb d_Pak_addDistance_61 ?_
  refine lv_iload_n hx hb d_Pak_addDistance_62 rfl (lv_at hl 2 rfl) ?_
  refine lv_ishr hx hb d_Pak_addDistance_63 ?_
  refine lv_iadd hx hb d_Pak_addDistance_64 ?_
  refine lv_iconst (v := 5) hx hb d_Pak_addDistance_65 (by decide) ?_
  refine kVv (y := y_Out_addBitsHighestFirst) (ws' := fun u3 => [e_Out a u3.1 u3.2.1 u3.2.2.1, e_Pak a Pak_singles Pak_runs Pak_longest, e_ar a n cI 11 u3.2.2.2]) (wr := [e_Pak a Pak_singles Pak_runs Pak_longest]) (As := [.int ((4 + (2 * (y2 - 1))) + ((x1 - y3 : Int32) >>> (y2 &&& 31))), .int 5]) (rest := []) E hw (c_Out_addBitsHighestFirst (l := l) (dC := dC) (dI := dI) (cI := cI) (tb := tb) (a := a) (n := n) (Out_size := Out_size) (Out_gathered := Out_gathered) (Out_gatheredBits := Out_gatheredBits) (ob := ob) (x1 := (4 + (2 * (y2 - 1))) + ((x1 - y3 : Int32) >>> (y2 &&& 31))) (x2 := 5) h) tw390 tw391 tw392 tw40 tw393 2 (by decide) ⟨Nat.le_of_ble_eq_true rfl, Nat.le_of_ble_eq_true rfl⟩ ⟨Nat.le_of_ble_eq_true rfl, Nat.le_of_ble_eq_true rfl⟩ ⟨rfl, rfl⟩ rfl rfl 0 rfl [0, 2] [1] [1, 0, 2] rfl rfl rfl rfl (by decide) rfl (fun _ => rfl) hl.1 rfl rfl (Nat.le_of_ble_eq_true rfl) d_Pak_addDistance_66 (fun u3 H locs h hw => ?_)
  refine lv_aload_n hx hb d_Pak_addDistance_69 rfl (lv_at hl 0 rfl) ?_
  refine kget (v := .ref (a 3)) (T := F_Pak) E hw in_Pak rfl 1 1 rfl (by decide) tw190 rfl d_Pak_addDistance_70 ?_
  refine lv_iload_n hx hb d_Pak_addDistance_73 rfl (lv_at hl 1 rfl) ?_
  refine lv_iload_n hx hb d_Pak_addDistance_74 rfl (lv_at hl 3 rfl) ?_
  refine lv_isub hx hb d_Pak_addDistance_75 ?_
  refine lv_iload_n hx hb d_Pak_addDistance_76 rfl (lv_at hl 2 rfl) ?_
  refine kVv (y := y_Out_addBitsLowestFirst) (ws' := fun u5 => [e_Out a u5.1 u5.2.1 u5.2.2.1, e_Pak a Pak_singles Pak_runs Pak_longest, e_ar a n cI 11 u5.2.2.2]) (wr := [e_Pak a Pak_singles Pak_runs Pak_longest]) (As := [.int (x1 - y3), .int y2]) (rest := []) E hw (c_Out_addBitsLowestFirst (l := l) (dC := dC) (dI := dI) (cI := cI) (tb := tb) (a := a) (n := n) (Out_size := u3.1) (Out_gathered := u3.2.1) (Out_gatheredBits := u3.2.2.1) (ob := u3.2.2.2) (x1 := x1 - y3) (x2 := y2) h) tw348 tw349 tw350 tw40 tw351 2 (by decide) ⟨Nat.le_of_ble_eq_true rfl, Nat.le_of_ble_eq_true rfl⟩ ⟨Nat.le_of_ble_eq_true rfl, Nat.le_of_ble_eq_true rfl⟩ ⟨rfl, rfl⟩ rfl rfl 0 rfl [0, 2] [1] [1, 0, 2] rfl rfl rfl rfl (by decide) rfl (fun _ => rfl) hl.1 rfl rfl (Nat.le_of_ble_eq_true rfl) d_Pak_addDistance_77 (fun u5 H locs h hw => ?_)
  exact retV (out := fun u => [e_Out a u.1 u.2.1 u.2.2.1, e_Pak a Pak_singles Pak_runs Pak_longest, e_ar a n cI 11 u.2.2.2]) (u := (u5.1, u5.2.1, u5.2.2.1, u5.2.2.2)) E hr hlk hw h d_Pak_addDistance_80
set_option maxHeartbeats 2000000 in
set_option maxRecDepth 20000 in
theorem s_Pak_addDistance_21 {l : Launch} {dC : Nat → ClassId} {dI : Nat → Nat → Nat} {cI : ClassId} {tb a n : Nat → Nat} {p : Program} {e : Env} {s : State} {m : MethodId} {args : Array Value} {below : List Frame} {meth : Method} {c : Code} {A : Nat → Prop} (E : CallFix p m c prog_4_method_7_code 4 s args TBL "PicturePacker$Packer") (hr : meth.sig.returnType = none) (hlk : meth.locks = false) {Pak_singles : Int32} {Pak_runs : Int32} {Pak_longest : Int32} {x1 : Int32} {post : Int32 × Int32 × Int32 × (Nat → Int32) → Prop} : ∀ (N : Nat) (Out_size : Int32) (Out_gathered : Int32) (Out_gatheredBits : Int32) (ob : Nat → Int32) (y2 : Int32) (y3 : Int32) (H : Heap) (locs : List Loc) (ls : Array Slot), Wl classes dC dI cI tb A s H locs [e_Out a Out_size Out_gathered Out_gatheredBits, e_Pak a Pak_singles Pak_runs Pak_longest, e_ar a n cI 11 ob] → lv_has ls 4 [(0, .ref (a 5)), (1, .int x1), (2, .int y2), (3, .int y3)] → wp_Pak_addDistance_21 n x1 post N Out_size Out_gathered Out_gatheredBits ob y2 y3 → W p l e ({ frames := 4, cells := 0, slots := 0, locals := 85 }) s m args below meth c H locs 0 0 (MQ below (va_Qv post (fun u => End0 classes dC dI cI A [e_Out a u.1 u.2.1 u.2.2.1, e_Pak a Pak_singles Pak_runs Pak_longest, e_ar a n cI 11 u.2.2.2]) A) args s 0 0 A) (F0 m 21 ls []) := by
  obtain ⟨hx, hb, hml, hown, hts⟩ := id E
  intro N
  induction N with
  | zero =>
    intro _ _ _ _ _ _ H locs ls hw hl h
    exact absurd h id
  | succ N ih =>
    intro Out_size Out_gathered Out_gatheredBits ob y2 y3 H locs ls hw hl h
    unfold wp_Pak_addDistance_21 at h
    refine lv_iload_n hx hb d_Pak_addDistance_21 rfl (lv_at hl 2 rfl) ?_
    refine lv_bipush (v := 13) hx hb d_Pak_addDistance_22 (by decide) ?_
    refine lv_icmp_ge (tgt := 48) hx hb d_Pak_addDistance_24 (by decide) (fun c2 => ?_) (fun c2 => ?_)
    · have h := h.1 c2
      exact s_Pak_addDistance_48 (a := a) (n := n) (tb := tb) E hr hlk  Out_size Out_gathered Out_gatheredBits ob y2 y3 _ _ ls hw (lv_sub hl [0, 1, 2, 3] rfl) h
    · have h := h.2 c2
      refine lv_iload_n hx hb d_Pak_addDistance_27 rfl (lv_at hl 1 rfl) ?_
      refine lv_iload_n hx hb d_Pak_addDistance_28 rfl (lv_at hl 3 rfl) ?_
      refine lv_iconst (v := 2) hx hb d_Pak_addDistance_29 (by decide) ?_
      refine lv_iload_n hx hb d_Pak_addDistance_30 rfl (lv_at hl 2 rfl) ?_
      refine lv_ishl hx hb d_Pak_addDistance_31 ?_
      refine lv_iadd hx hb d_Pak_addDistance_32 ?_
      refine lv_icmp_lt (tgt := 48) hx hb d_Pak_addDistance_33 (by decide) (fun c7 => ?_) (fun c7 => ?_)
      · have h := h.1 c7
        exact s_Pak_addDistance_48 (a := a) (n := n) (tb := tb) E hr hlk  Out_size Out_gathered Out_gatheredBits ob y2 y3 _ _ ls hw (lv_sub hl [0, 1, 2, 3] rfl) h
      · have h := h.2 c7
        refine lv_iload_n hx hb d_Pak_addDistance_36 rfl (lv_at hl 3 rfl) ?_
        refine lv_iconst (v := 2) hx hb d_Pak_addDistance_37 (by decide) ?_
        refine lv_iload_n hx hb d_Pak_addDistance_38 rfl (lv_at hl 2 rfl) ?_
        refine lv_ishl hx hb d_Pak_addDistance_39 ?_
        refine lv_iadd hx hb d_Pak_addDistance_40 ?_
        refine lv_topi (fun z8 ez8 => ?_)
        have h := h z8 ez8
        refine lv_istore_n (lv' := [(3, .int z8), (0, .ref (a 5)), (1, .int x1), (2, .int y2)]) hx hb d_Pak_addDistance_41 rfl hl (by decide) rfl (fun ls hl => ?_)
        obtain ⟨z9, ez9⟩ : ∃ z : Int32, z = y2 + 1 := ⟨_, rfl⟩
        have h := h z9 ez9
        refine lv_iinc (v := z9) (lv' := [(2, .int z9), (3, .int z8), (0, .ref (a 5)), (1, .int x1)]) hx hb d_Pak_addDistance_42 hl (k := 3) rfl (by rw [ez9]; exact congrArg (y2 + ·) (by decide)) (by decide) rfl (fun ls hl => ?_)
        refine lv_goto (tgt := 21) hx hb d_Pak_addDistance_45 (by decide) ?_
        exact ih Out_size Out_gathered Out_gatheredBits ob z9 z8 _ _ ls hw (lv_sub hl [2, 3, 0, 1] rfl) h
set_option maxHeartbeats 2000000 in
set_option maxRecDepth 20000 in
theorem c_Pak_addDistance {l : Launch} {dC : Nat → ClassId} {dI : Nat → Nat → Nat} {cI : ClassId} {tb a n : Nat → Nat} {Out_size : Int32} {Out_gathered : Int32} {Out_gatheredBits : Int32} {Pak_singles : Int32} {Pak_runs : Int32} {Pak_longest : Int32} {ob : Nat → Int32} {x1 : Int32} {post : Int32 × Int32 × Int32 × (Nat → Int32) → Prop} (h : wp_Pak_addDistance n Out_size Out_gathered Out_gatheredBits ob x1 post) : CtV classes dC dI cI tb l y_Pak_addDistance prog_4_method_7_code 4 ({ frames := 4, cells := 0, slots := 0, locals := 85 }) [.ref (a 5), .int x1] [e_Out a Out_size Out_gathered Out_gatheredBits, e_Pak a Pak_singles Pak_runs Pak_longest, e_ar a n cI 11 ob] (Int32 × Int32 × Int32 × (Nat → Int32)) (fun u => [e_Out a u.1 u.2.1 u.2.2.1, e_Pak a Pak_singles Pak_runs Pak_longest, e_ar a n cI 11 u.2.2.2]) post := by
  refine startV (by decide) (Nat.le_of_ble_eq_true rfl) ?_
  intro p e s m below meth c ls E hr hlk hnm hl hw
  have hl : lv_has ls 4 [(0, .ref (a 5)), (1, .int x1)] := hl
  generalize va_A [e_Out a Out_size Out_gathered Out_gatheredBits, e_Pak a Pak_singles Pak_runs Pak_longest, e_ar a n cI 11 ob] s.heap.size = A at hw ⊢
  obtain ⟨hx, hb, hml, hown, hts⟩ := id E
  unfold wp_Pak_addDistance at h
  refine lv_iload_n hx hb d_Pak_addDistance_0 rfl (lv_at hl 1 rfl) ?_
  refine lv_iconst (v := 5) hx hb d_Pak_addDistance_1 (by decide) ?_
  refine lv_icmp_ge (tgt := 17) hx hb d_Pak_addDistance_2 (by decide) (fun c1 => ?_) (fun c1 => ?_)
  · have h := h.1 c1
    refine lv_iconst (v := 1) hx hb d_Pak_addDistance_17 (by decide) ?_
    refine lv_istore_n (lv' := [(2, .int 1), (0, .ref (a 5)), (1, .int x1)]) hx hb d_Pak_addDistance_18 rfl hl (by decide) rfl (fun ls hl => ?_)
    refine lv_iconst (v := 5) hx hb d_Pak_addDistance_19 (by decide) ?_
    refine lv_istore_n (lv' := [(3, .int 5), (2, .int 1), (0, .ref (a 5)), (1, .int x1)]) hx hb d_Pak_addDistance_20 rfl hl (by decide) rfl (fun ls hl => ?_)
    obtain ⟨N10, h⟩ := h
    exact s_Pak_addDistance_21 (a := a) (n := n) (tb := tb) E hr hlk  N10 Out_size Out_gathered Out_gatheredBits ob 1 5 _ _ ls hw (lv_sub hl [2, 3, 1, 0] rfl) h
  · have h := h.2 c1
    refine lv_aload_n hx hb d_Pak_addDistance_5 rfl (lv_at hl 0 rfl) ?_
    refine kget (v := .ref (a 3)) (T := F_Pak) E hw in_Pak rfl 1 1 rfl (by decide) tw190 rfl d_Pak_addDistance_6 ?_
    refine lv_iload_n hx hb d_Pak_addDistance_9 rfl (lv_at hl 1 rfl) ?_
    refine lv_iconst (v := 1) hx hb d_Pak_addDistance_10 (by decide) ?_
    refine lv_isub hx hb d_Pak_addDistance_11 ?_
    refine lv_iconst (v := 5) hx hb d_Pak_addDistance_12 (by decide) ?_
    refine kVv (y := y_Out_addBitsHighestFirst) (ws' := fun u11 => [e_Out a u11.1 u11.2.1 u11.2.2.1, e_Pak a Pak_singles Pak_runs Pak_longest, e_ar a n cI 11 u11.2.2.2]) (wr := [e_Pak a Pak_singles Pak_runs Pak_longest]) (As := [.int (x1 - 1), .int 5]) (rest := []) E hw (c_Out_addBitsHighestFirst (l := l) (dC := dC) (dI := dI) (cI := cI) (tb := tb) (a := a) (n := n) (Out_size := Out_size) (Out_gathered := Out_gathered) (Out_gatheredBits := Out_gatheredBits) (ob := ob) (x1 := x1 - 1) (x2 := 5) h) tw390 tw391 tw392 tw40 tw393 2 (by decide) ⟨Nat.le_of_ble_eq_true rfl, Nat.le_of_ble_eq_true rfl⟩ ⟨Nat.le_of_ble_eq_true rfl, Nat.le_of_ble_eq_true rfl⟩ ⟨rfl, rfl⟩ rfl rfl 0 rfl [0, 2] [1] [1, 0, 2] rfl rfl rfl rfl (by decide) rfl (fun _ => rfl) hl.1 rfl rfl (Nat.le_of_ble_eq_true rfl) d_Pak_addDistance_13 (fun u11 H locs h hw => ?_)
    exact retV (out := fun u => [e_Out a u.1 u.2.1 u.2.2.1, e_Pak a Pak_singles Pak_runs Pak_longest, e_ar a n cI 11 u.2.2.2]) (u := (u11.1, u11.2.1, u11.2.2.1, u11.2.2.2)) E hr hlk hw h d_Pak_addDistance_16
-- PicturePacker$Packer.addRun(II)V
theorem d_Pak_addRun_0 : decode prog_4_method_4_code 0 = .ok (.aload_n 0, 1) := by decide +kernel
theorem d_Pak_addRun_1 : decode prog_4_method_4_code 1 = .ok (.dup, 1) := by decide +kernel
theorem d_Pak_addRun_2 : decode prog_4_method_4_code 2 = .ok (.getfield 30, 3) := by decide +kernel
theorem d_Pak_addRun_5 : decode prog_4_method_4_code 5 = .ok (.iconst 1, 1) := by decide +kernel
theorem d_Pak_addRun_6 : decode prog_4_method_4_code 6 = .ok (.iadd, 1) := by decide +kernel
theorem d_Pak_addRun_7 : decode prog_4_method_4_code 7 = .ok (.putfield 30, 3) := by decide +kernel
theorem d_Pak_addRun_10 : decode prog_4_method_4_code 10 = .ok (.aload_n 0, 1) := by decide +kernel
theorem d_Pak_addRun_11 : decode prog_4_method_4_code 11 = .ok (.aload_n 0, 1) := by decide +kernel
theorem d_Pak_addRun_12 : decode prog_4_method_4_code 12 = .ok (.getfield 33, 3) := by decide +kernel
theorem d_Pak_addRun_15 : decode prog_4_method_4_code 15 = .ok (.iload_n 1, 1) := by decide +kernel
theorem d_Pak_addRun_16 : decode prog_4_method_4_code 16 = .ok (.invokestatic 70, 3) := by decide +kernel
theorem d_Pak_addRun_19 : decode prog_4_method_4_code 19 = .ok (.putfield 33, 3) := by decide +kernel
theorem d_Pak_addRun_22 : decode prog_4_method_4_code 22 = .ok (.aload_n 0, 1) := by decide +kernel
theorem d_Pak_addRun_23 : decode prog_4_method_4_code 23 = .ok (.iload_n 1, 1) := by decide +kernel
theorem d_Pak_addRun_24 : decode prog_4_method_4_code 24 = .ok (.invokevirtual 76, 3) := by decide +kernel
theorem d_Pak_addRun_27 : decode prog_4_method_4_code 27 = .ok (.aload_n 0, 1) := by decide +kernel
theorem d_Pak_addRun_28 : decode prog_4_method_4_code 28 = .ok (.iload_n 2, 1) := by decide +kernel
theorem d_Pak_addRun_29 : decode prog_4_method_4_code 29 = .ok (.invokevirtual 79, 3) := by decide +kernel
theorem d_Pak_addRun_32 : decode prog_4_method_4_code 32 = .ok (.return_, 1) := by decide +kernel
abbrev y_Pak_addRun : MethodName := ⟨"PicturePacker$Packer", "addRun", "(II)V"⟩
def wp_Pak_addRun (n : Nat → Nat) (Out_size : Int32) (Out_gathered : Int32) (Out_gatheredBits : Int32) (Pak_runs : Int32) (Pak_longest : Int32) (ob : Nat → Int32) (x1 : Int32) (x2 : Int32) (post : Int32 × Int32 × Int32 × Int32 × Int32 × (Nat → Int32) → Prop) : Prop := ∀ z1 : Int32, z1 = (Pak_runs + 1) → (∀ z2 : Int32, z2 = (if (Pak_longest : Int32) < x1 then x1 else Pak_longest) → (wp_Pak_addLength n Out_size Out_gathered Out_gatheredBits ob x1 (fun u3 => wp_Pak_addDistance n u3.1 u3.2.1 u3.2.2.1 u3.2.2.2 x2 (fun u5 => post (u5.1, u5.2.1, u5.2.2.1, z1, z2, u5.2.2.2)))))
set_option maxHeartbeats 2000000 in
set_option maxRecDepth 20000 in
theorem c_Pak_addRun {l : Launch} {dC : Nat → ClassId} {dI : Nat → Nat → Nat} {cI : ClassId} {tb a n : Nat → Nat} {Out_size : Int32} {Out_gathered : Int32} {Out_gatheredBits : Int32} {Pak_singles : Int32} {Pak_runs : Int32} {Pak_longest : Int32} {ob : Nat → Int32} {x1 : Int32} {x2 : Int32} {post : Int32 × Int32 × Int32 × Int32 × Int32 × (Nat → Int32) → Prop} (h : wp_Pak_addRun n Out_size Out_gathered Out_gatheredBits Pak_runs Pak_longest ob x1 x2 post) : CtV classes dC dI cI tb l y_Pak_addRun prog_4_method_4_code 3 ({ frames := 7, cells := 0, slots := 0, locals := 150 }) [.ref (a 5), .int x1, .int x2] [e_Out a Out_size Out_gathered Out_gatheredBits, e_Pak a Pak_singles Pak_runs Pak_longest, e_ar a n cI 11 ob] (Int32 × Int32 × Int32 × Int32 × Int32 × (Nat → Int32)) (fun u => [e_Out a u.1 u.2.1 u.2.2.1, e_Pak a Pak_singles u.2.2.2.1 u.2.2.2.2.1, e_ar a n cI 11 u.2.2.2.2.2]) post := by
  refine startV (by decide) (Nat.le_of_ble_eq_true rfl) ?_
  intro p e s m below meth c ls E hr hlk hnm hl hw
  have hl : lv_has ls 3 [(0, .ref (a 5)), (1, .int x1), (2, .int x2)] := hl
  generalize va_A [e_Out a Out_size Out_gathered Out_gatheredBits, e_Pak a Pak_singles Pak_runs Pak_longest, e_ar a n cI 11 ob] s.heap.size = A at hw ⊢
  obtain ⟨hx, hb, hml, hown, hts⟩ := id E
  unfold wp_Pak_addRun at h
  refine lv_aload_n hx hb d_Pak_addRun_0 rfl (lv_at hl 0 rfl) ?_
  refine lv_dup hx hb d_Pak_addRun_1 rfl ?_
  refine kget (v := .int Pak_runs) (T := F_Pak) E hw in_Pak rfl 1 4 rfl (by decide) tw194 rfl d_Pak_addRun_2 ?_
  refine lv_iconst (v := 1) hx hb d_Pak_addRun_5 (by decide) ?_
  refine lv_iadd hx hb d_Pak_addRun_6 ?_
  refine lv_topi (fun z1 ez1 => ?_)
  have h := h z1 ez1
  refine kput (v := .int z1) (ty := .int) (T := F_Pak) (ws' := [e_Out a Out_size Out_gathered Out_gatheredBits, e_Pak a Pak_singles z1 Pak_longest, e_ar a n cI 11 ob]) E hw in_Pak t_Pak t_Pak_ok n_Pak rfl 1 4 rfl (by decide) tw194 rfl rfl rfl rfl (Nat.le_of_ble_eq_true rfl) rfl d_Pak_addRun_7 (fun H locs hw => ?_)
  refine lv_aload_n hx hb d_Pak_addRun_10 rfl (lv_at hl 0 rfl) ?_
  refine lv_aload_n hx hb d_Pak_addRun_11 rfl (lv_at hl 0 rfl) ?_
  refine kget (v := .int Pak_longest) (T := F_Pak) E hw in_Pak rfl 1 5 rfl (by decide) tw196 rfl d_Pak_addRun_12 ?_
  refine lv_iload_n hx hb d_Pak_addRun_15 rfl (lv_at hl 1 rfl) ?_
  refine kmax E hl.1 tw381 tw62 tw37 tw63 (Nat.le_of_ble_eq_true rfl) (Nat.le_of_ble_eq_true rfl) (Nat.le_of_ble_eq_true rfl) (Nat.le_of_ble_eq_true rfl) d_Pak_addRun_16 ?_
  refine lv_topi (fun z2 ez2 => ?_)
  have h := h z2 ez2
  refine kput (v := .int z2) (ty := .int) (T := F_Pak) (ws' := [e_Out a Out_size Out_gathered Out_gatheredBits, e_Pak a Pak_singles z1 z2, e_ar a n cI 11 ob]) E hw in_Pak t_Pak t_Pak_ok n_Pak rfl 1 5 rfl (by decide) tw196 rfl rfl rfl rfl (Nat.le_of_ble_eq_true rfl) rfl d_Pak_addRun_19 (fun H locs hw => ?_)
  refine lv_aload_n hx hb d_Pak_addRun_22 rfl (lv_at hl 0 rfl) ?_
  refine lv_iload_n hx hb d_Pak_addRun_23 rfl (lv_at hl 1 rfl) ?_
  refine kVv (y := y_Pak_addLength) (ws' := fun u3 => [e_Out a u3.1 u3.2.1 u3.2.2.1, e_Pak a Pak_singles z1 z2, e_ar a n cI 11 u3.2.2.2]) (wr := []) (As := [.int x1]) (rest := []) E hw (c_Pak_addLength (l := l) (dC := dC) (dI := dI) (cI := cI) (tb := tb) (a := a) (n := n) (Out_size := Out_size) (Out_gathered := Out_gathered) (Out_gatheredBits := Out_gatheredBits) (Pak_singles := Pak_singles) (Pak_runs := z1) (Pak_longest := z2) (ob := ob) (x1 := x1) h) tw382 tw384 tw11 tw42 tw385 1 (by decide) ⟨Nat.le_of_ble_eq_true rfl, Nat.le_of_ble_eq_true rfl⟩ ⟨Nat.le_of_ble_eq_true rfl, Nat.le_of_ble_eq_true rfl⟩ ⟨rfl, rfl⟩ rfl rfl 1 rfl [0, 1, 2] [] [0, 1, 2] rfl rfl rfl rfl (by decide) rfl (fun _ => rfl) hl.1 rfl rfl (Nat.le_of_ble_eq_true rfl) d_Pak_addRun_24 (fun u3 H locs h hw => ?_)
  refine lv_aload_n hx hb d_Pak_addRun_27 rfl (lv_at hl 0 rfl) ?_
  refine lv_iload_n hx hb d_Pak_addRun_28 rfl (lv_at hl 2 rfl) ?_
  refine kVv (y := y_Pak_addDistance) (ws' := fun u5 => [e_Out a u5.1 u5.2.1 u5.2.2.1, e_Pak a Pak_singles z1 z2, e_ar a n cI 11 u5.2.2.2]) (wr := []) (As := [.int x2]) (rest := []) E hw (c_Pak_addDistance (l := l) (dC := dC) (dI := dI) (cI := cI) (tb := tb) (a := a) (n := n) (Out_size := u3.1) (Out_gathered := u3.2.1) (Out_gatheredBits := u3.2.2.1) (Pak_singles := Pak_singles) (Pak_runs := z1) (Pak_longest := z2) (ob := u3.2.2.2) (x1 := x2) h) tw398 tw400 tw14 tw42 tw401 1 (by decide) ⟨Nat.le_of_ble_eq_true rfl, Nat.le_of_ble_eq_true rfl⟩ ⟨Nat.le_of_ble_eq_true rfl, Nat.le_of_ble_eq_true rfl⟩ ⟨rfl, rfl⟩ rfl rfl 1 rfl [0, 1, 2] [] [0, 1, 2] rfl rfl rfl rfl (by decide) rfl (fun _ => rfl) hl.1 rfl rfl (Nat.le_of_ble_eq_true rfl) d_Pak_addRun_29 (fun u5 H locs h hw => ?_)
  exact retV (out := fun u => [e_Out a u.1 u.2.1 u.2.2.1, e_Pak a Pak_singles u.2.2.2.1 u.2.2.2.2.1, e_ar a n cI 11 u.2.2.2.2.2]) (u := (u5.1, u5.2.1, u5.2.2.1, z1, z2, u5.2.2.2)) E hr hlk hw h d_Pak_addRun_32
-- PicturePacker$Packer.pack()V
theorem d_Pak_pack_0 : decode prog_4_method_2_code 0 = .ok (.aload_n 0, 1) := by decide +kernel
theorem d_Pak_pack_1 : decode prog_4_method_2_code 1 = .ok (.iconst 0, 1) := by decide +kernel
theorem d_Pak_pack_2 : decode prog_4_method_2_code 2 = .ok (.putfield 26, 3) := by decide +kernel
theorem d_Pak_pack_5 : decode prog_4_method_2_code 5 = .ok (.aload_n 0, 1) := by decide +kernel
theorem d_Pak_pack_6 : decode prog_4_method_2_code 6 = .ok (.iconst 0, 1) := by decide +kernel
theorem d_Pak_pack_7 : decode prog_4_method_2_code 7 = .ok (.putfield 30, 3) := by decide +kernel
theorem d_Pak_pack_10 : decode prog_4_method_2_code 10 = .ok (.aload_n 0, 1) := by decide +kernel
theorem d_Pak_pack_11 : decode prog_4_method_2_code 11 = .ok (.iconst 0, 1) := by decide +kernel
theorem d_Pak_pack_12 : decode prog_4_method_2_code 12 = .ok (.putfield 33, 3) := by decide +kernel
theorem d_Pak_pack_15 : decode prog_4_method_2_code 15 = .ok (.aload_n 0, 1) := by decide +kernel
theorem d_Pak_pack_16 : decode prog_4_method_2_code 16 = .ok (.getfield 22, 3) := by decide +kernel
theorem d_Pak_pack_19 : decode prog_4_method_2_code 19 = .ok (.invokevirtual 36, 3) := by decide +kernel
theorem d_Pak_pack_22 : decode prog_4_method_2_code 22 = .ok (.aload_n 0, 1) := by decide +kernel
theorem d_Pak_pack_23 : decode prog_4_method_2_code 23 = .ok (.getfield 13, 3) := by decide +kernel
theorem d_Pak_pack_26 : decode prog_4_method_2_code 26 = .ok (.iconst 3, 1) := by decide +kernel
theorem d_Pak_pack_27 : decode prog_4_method_2_code 27 = .ok (.iconst 3, 1) := by decide +kernel
theorem d_Pak_pack_28 : decode prog_4_method_2_code 28 = .ok (.invokevirtual 39, 3) := by decide +kernel
theorem d_Pak_pack_31 : decode prog_4_method_2_code 31 = .ok (.iconst 0, 1) := by decide +kernel
theorem d_Pak_pack_32 : decode prog_4_method_2_code 32 = .ok (.istore_n 1, 1) := by decide +kernel
theorem d_Pak_pack_33 : decode prog_4_method_2_code 33 = .ok (.iload_n 1, 1) := by decide +kernel
theorem d_Pak_pack_34 : decode prog_4_method_2_code 34 = .ok (.aload_n 0, 1) := by decide +kernel
theorem d_Pak_pack_35 : decode prog_4_method_2_code 35 = .ok (.getfield 7, 3) := by decide +kernel
theorem d_Pak_pack_38 : decode prog_4_method_2_code 38 = .ok (.arraylength, 1) := by decide +kernel
theorem d_Pak_pack_39 : decode prog_4_method_2_code 39 = .ok (.if_icmp .ge 68, 3) := by decide +kernel
theorem d_Pak_pack_42 : decode prog_4_method_2_code 42 = .ok (.aload_n 0, 1) := by decide +kernel
theorem d_Pak_pack_43 : decode prog_4_method_2_code 43 = .ok (.getfield 22, 3) := by decide +kernel
theorem d_Pak_pack_46 : decode prog_4_method_2_code 46 = .ok (.iload_n 1, 1) := by decide +kernel
theorem d_Pak_pack_47 : decode prog_4_method_2_code 47 = .ok (.invokevirtual 45, 3) := by decide +kernel
theorem d_Pak_pack_50 : decode prog_4_method_2_code 50 = .ok (.aload_n 0, 1) := by decide +kernel
theorem d_Pak_pack_51 : decode prog_4_method_2_code 51 = .ok (.getfield 22, 3) := by decide +kernel
theorem d_Pak_pack_54 : decode prog_4_method_2_code 54 = .ok (.getfield 49, 3) := by decide +kernel
theorem d_Pak_pack_57 : decode prog_4_method_2_code 57 = .ok (.ifCond .le 34, 3) := by decide +kernel
theorem d_Pak_pack_60 : decode prog_4_method_2_code 60 = .ok (.aload_n 0, 1) := by decide +kernel
theorem d_Pak_pack_61 : decode prog_4_method_2_code 61 = .ok (.aload_n 0, 1) := by decide +kernel
theorem d_Pak_pack_62 : decode prog_4_method_2_code 62 = .ok (.getfield 22, 3) := by decide +kernel
theorem d_Pak_pack_65 : decode prog_4_method_2_code 65 = .ok (.getfield 49, 3) := by decide +kernel
theorem d_Pak_pack_68 : decode prog_4_method_2_code 68 = .ok (.aload_n 0, 1) := by decide +kernel
theorem d_Pak_pack_69 : decode prog_4_method_2_code 69 = .ok (.getfield 22, 3) := by decide +kernel
theorem d_Pak_pack_72 : decode prog_4_method_2_code 72 = .ok (.getfield 52, 3) := by decide +kernel
theorem d_Pak_pack_75 : decode prog_4_method_2_code 75 = .ok (.invokevirtual 55, 3) := by decide +kernel
theorem d_Pak_pack_78 : decode prog_4_method_2_code 78 = .ok (.iload_n 1, 1) := by decide +kernel
theorem d_Pak_pack_79 : decode prog_4_method_2_code 79 = .ok (.aload_n 0, 1) := by decide +kernel
theorem d_Pak_pack_80 : decode prog_4_method_2_code 80 = .ok (.getfield 22, 3) := by decide +kernel
theorem d_Pak_pack_83 : decode prog_4_method_2_code 83 = .ok (.getfield 49, 3) := by decide +kernel
theorem d_Pak_pack_86 : decode prog_4_method_2_code 86 = .ok (.iadd, 1) := by decide +kernel
theorem d_Pak_pack_87 : decode prog_4_method_2_code 87 = .ok (.istore_n 1, 1) := by decide +kernel
theorem d_Pak_pack_88 : decode prog_4_method_2_code 88 = .ok (.goto (-55), 3) := by decide +kernel
theorem d_Pak_pack_91 : decode prog_4_method_2_code 91 = .ok (.aload_n 0, 1) := by decide +kernel
theorem d_Pak_pack_92 : decode prog_4_method_2_code 92 = .ok (.aload_n 0, 1) := by decide +kernel
theorem d_Pak_pack_93 : decode prog_4_method_2_code 93 = .ok (.getfield 7, 3) := by decide +kernel
theorem d_Pak_pack_96 : decode prog_4_method_2_code 96 = .ok (.iload_n 1, 1) := by decide +kernel
theorem d_Pak_pack_97 : decode prog_4_method_2_code 97 = .ok (.iaload, 1) := by decide +kernel
theorem d_Pak_pack_98 : decode prog_4_method_2_code 98 = .ok (.invokevirtual 58, 3) := by decide +kernel
theorem d_Pak_pack_101 : decode prog_4_method_2_code 101 = .ok (.iinc 1 1, 3) := by decide +kernel
theorem d_Pak_pack_104 : decode prog_4_method_2_code 104 = .ok (.goto (-71), 3) := by decide +kernel
theorem d_Pak_pack_107 : decode prog_4_method_2_code 107 = .ok (.aload_n 0, 1) := by decide +kernel
theorem d_Pak_pack_108 : decode prog_4_method_2_code 108 = .ok (.sipush 256, 3) := by decide +kernel
theorem d_Pak_pack_111 : decode prog_4_method_2_code 111 = .ok (.invokevirtual 61, 3) := by decide +kernel
theorem d_Pak_pack_114 : decode prog_4_method_2_code 114 = .ok (.aload_n 0, 1) := by decide +kernel
theorem d_Pak_pack_115 : decode prog_4_method_2_code 115 = .ok (.getfield 13, 3) := by decide +kernel
theorem d_Pak_pack_118 : decode prog_4_method_2_code 118 = .ok (.invokevirtual 64, 3) := by decide +kernel
theorem d_Pak_pack_121 : decode prog_4_method_2_code 121 = .ok (.return_, 1) := by decide +kernel
abbrev y_Pak_pack : MethodName := ⟨"PicturePacker$Packer", "pack", "()V"⟩
def wp_Pak_pack_33 (n : Nat → Nat) (rb : Nat → Int32) (post : Int32 × Int32 × Int32 × Int32 × Int32 × Int32 × Int32 × Int32 × Int32 × (Nat → Int32) × (Nat → Int32) × (Nat → Int32) → Prop) : Nat → Int32 → Int32 → Int32 → Int32 → Int32 → Int32 → Int32 → Int32 → Int32 → (Nat → Int32) → (Nat → Int32) → (Nat → Int32) → Int32 → Prop
  | 0 => fun _ _ _ _ _ _ _ _ _ _ _ _ _ => False
  | N + 1 => fun Out_size Out_gathered Out_gatheredBits Pak_singles Pak_runs Pak_longest Fin_chained Fin_length Fin_distance ob nw nx y1 => ((nI (n 9) : Int32) ≤ y1 → (wp_Pak_addRunSign n Out_size Out_gathered Out_gatheredBits ob 256 (fun u6 => wp_Out_endByte n u6.1 u6.2.1 u6.2.2.1 u6.2.2.2 (fun u8 => post (u8.1, u8.2.1, u8.2.2.1, Pak_singles, Pak_runs, Pak_longest, Fin_chained, Fin_length, Fin_distance, u8.2.2.2, nw, nx))))) ∧ (¬ ((nI (n 9) : Int32) ≤ y1) → (wp_Fin_lookFrom n Fin_chained Fin_length Fin_distance rb nw nx y1 (fun u10 => ((u10.2.1 : Int32) ≤ 0 → (vp_in y1 (n 9) ∧ (wp_Pak_addSingle n Out_size Out_gathered Out_gatheredBits Pak_singles ob (rb (y1 : Int32).toNatClampNeg) (fun u14 => ∀ z16 : Int32, z16 = (y1 + 1) → (wp_Pak_pack_33 n rb post N u14.1 u14.2.1 u14.2.2.1 u14.2.2.2.1 Pak_runs Pak_longest u10.1 u10.2.1 u10.2.2.1 u14.2.2.2.2 u10.2.2.2.1 u10.2.2.2.2 z16))))) ∧ (¬ ((u10.2.1 : Int32) ≤ 0) → (wp_Pak_addRun n Out_size Out_gathered Out_gatheredBits Pak_runs Pak_longest ob u10.2.1 u10.2.2.1 (fun u17 => ∀ z19 : Int32, z19 = (y1 + u10.2.1) → (wp_Pak_pack_33 n rb post N u17.1 u17.2.1 u17.2.2.1 Pak_singles u17.2.2.2.1 u17.2.2.2.2.1 u10.1 u10.2.1 u10.2.2.1 u17.2.2.2.2.2 u10.2.2.2.1 u10.2.2.2.2 z19)))))))
def wp_Pak_pack (n : Nat → Nat) (Out_size : Int32) (Out_gathered : Int32) (Out_gatheredBits : Int32) (Pak_singles : Int32) (Pak_runs : Int32) (Pak_longest : Int32) (Fin_chained : Int32) (Fin_length : Int32) (Fin_distance : Int32) (rb : Nat → Int32) (ob : Nat → Int32) (nw : Nat → Int32) (nx : Nat → Int32) (post : Int32 × Int32 × Int32 × Int32 × Int32 × Int32 × Int32 × Int32 × Int32 × (Nat → Int32) × (Nat → Int32) × (Nat → Int32) → Prop) : Prop := wp_Fin_restart n Fin_chained nw (fun u1 => wp_Out_addBitsLowestFirst n Out_size Out_gathered Out_gatheredBits ob 3 3 (fun u3 => ∃ N20 : Nat, wp_Pak_pack_33 n rb post N20 u3.1 u3.2.1 u3.2.2.1 0 0 0 u1.1 Fin_length Fin_distance u3.2.2.2 u1.2 nx 0))
set_option maxHeartbeats 2000000 in
set_option maxRecDepth 20000 in
theorem s_Pak_pack_33 {l : Launch} {dC : Nat → ClassId} {dI : Nat → Nat → Nat} {cI : ClassId} {tb a n : Nat → Nat} {p : Program} {e : Env} {s : State} {m : MethodId} {args : Array Value} {below : List Frame} {meth : Method} {c : Code} {A : Nat → Prop} (E : CallFix p m c prog_4_method_2_code 2 s args TBL "PicturePacker$Packer") (hr : meth.sig.returnType = none) (hlk : meth.locks = false) {rb : Nat → Int32} {post : Int32 × Int32 × Int32 × Int32 × Int32 × Int32 × Int32 × Int32 × Int32 × (Nat → Int32) × (Nat → Int32) × (Nat → Int32) → Prop} : ∀ (N : Nat) (Out_size : Int32) (Out_gathered : Int32) (Out_gatheredBits : Int32) (Pak_singles : Int32) (Pak_runs : Int32) (Pak_longest : Int32) (Fin_chained : Int32) (Fin_length : Int32) (Fin_distance : Int32) (ob : Nat → Int32) (nw : Nat → Int32) (nx : Nat → Int32) (y1 : Int32) (H : Heap) (locs : List Loc) (ls : Array Slot), Wl classes dC dI cI tb A s H locs [e_Out a Out_size Out_gathered Out_gatheredBits, e_Pak a Pak_singles Pak_runs Pak_longest, e_Fin a Fin_chained Fin_length Fin_distance, e_ar a n cI 9 rb, e_ar a n cI 11 ob, e_ar a n cI 13 nw, e_ar a n cI 14 nx] → lv_has ls 2 [(0, .ref (a 5)), (1, .int y1)] → wp_Pak_pack_33 n rb post N Out_size Out_gathered Out_gatheredBits Pak_singles Pak_runs Pak_longest Fin_chained Fin_length Fin_distance ob nw nx y1 → W p l e ({ frames := 8, cells := 0, slots := 0, locals := 172 }) s m args below meth c H locs 0 0 (MQ below (va_Qv post (fun u => End0 classes dC dI cI A [e_Out a u.1 u.2.1 u.2.2.1, e_Pak a u.2.2.2.1 u.2.2.2.2.1 u.2.2.2.2.2.1, e_Fin a u.2.2.2.2.2.2.1 u.2.2.2.2.2.2.2.1 u.2.2.2.2.2.2.2.2.1, e_ar a n cI 9 rb, e_ar a n cI 11 u.2.2.2.2.2.2.2.2.2.1, e_ar a n cI 13 u.2.2.2.2.2.2.2.2.2.2.1, e_ar a n cI 14 u.2.2.2.2.2.2.2.2.2.2.2]) A) args s 0 0 A) (F0 m 33 ls []) := by
  obtain ⟨hx, hb, hml, hown, hts⟩ := id E
  intro N
  induction N with
  | zero =>
    intro _ _ _ _ _ _ _ _ _ _ _ _ _ H locs ls hw hl h
    exact absurd h id
  | succ N ih =>
    intro Out_size Out_gathered Out_gatheredBits Pak_singles Pak_runs Pak_longest Fin_chained Fin_length Fin_distance ob nw nx y1 H locs ls hw hl h
    unfold wp_Pak_pack_33 at h
    refine lv_iload_n hx hb d_Pak_pack_33 rfl (lv_at hl 1 rfl) ?_
    refine lv_aload_n hx hb d_Pak_pack_34 rfl (lv_at hl 0 rfl) ?_
    refine kget (v := .ref (a 9)) (T := F_Pak) E hw in_Pak rfl 1 0 rfl (by decide) tw189 rfl d_Pak_pack_35 ?_
    refine kalen E hw 3 rfl d_Pak_pack_38 ?_
    refine lv_icmp_ge (tgt := 107) hx hb d_Pak_pack_39 (by decide) (fun c5 => ?_) (fun c5 => ?_)
    · have h := h.1 c5
      refine lv_aload_n hx hb d_Pak_pack_107 rfl (lv_at hl 0 rfl) ?_
      refine lv_sipush (v := 256) hx hb d_Pak_pack_108 (by decide) ?_
      refine kVv (y := y_Pak_addRunSign) (ws' := fun u6 => [e_Out a u6.1 u6.2.1 u6.2.2.1, e_Pak a Pak_singles Pak_runs Pak_longest, e_Fin a Fin_chained Fin_length Fin_distance, e_ar a n cI 9 rb, e_ar a n cI 11 u6.2.2.2, e_ar a n cI 13 nw, e_ar a n cI 14 nx]) (wr := [e_Fin a Fin_chained Fin_length Fin_distance, e_ar a n cI 9 rb, e_ar a n cI 13 nw, e_ar a n cI 14 nx]) (As := [.int 256]) (rest := []) E hw (c_Pak_addRunSign (l := l) (dC := dC) (dI := dI) (cI := cI) (tb := tb) (a := a) (n := n) (Out_size := Out_size) (Out_gathered := Out_gathered) (Out_gatheredBits := Out_gatheredBits) (Pak_singles := Pak_singles) (Pak_runs := Pak_runs) (Pak_longest := Pak_longest) (ob := ob) (x1 := 256) h) tw386 tw388 tw12 tw42 tw389 1 (by decide) ⟨Nat.le_of_ble_eq_true rfl, Nat.le_of_ble_eq_true rfl⟩ ⟨Nat.le_of_ble_eq_true rfl, Nat.le_of_ble_eq_true rfl⟩ ⟨rfl, rfl⟩ rfl rfl 1 rfl [0, 1, 4] [2, 3, 5, 6] [4, 5, 0, 1, 6, 2, 3] rfl rfl rfl rfl (by decide) rfl (fun _ => rfl) hl.1 rfl rfl (Nat.le_of_ble_eq_true rfl) d_Pak_pack_111 (fun u6 H locs h hw => ?_)
      refine lv_aload_n hx hb d_Pak_pack_114 rfl (lv_at hl 0 rfl) ?_
      refine kget (v := .ref (a 3)) (T := F_Pak) E hw in_Pak rfl 1 1 rfl (by decide) tw190 rfl d_Pak_pack_115 ?_
      refine kVv (y := y_Out_endByte) (ws' := fun u8 => [e_Out a u8.1 u8.2.1 u8.2.2.1, e_Pak a Pak_singles Pak_runs Pak_longest, e_Fin a Fin_chained Fin_length Fin_distance, e_ar a n cI 9 rb, e_ar a n cI 11 u8.2.2.2, e_ar a n cI 13 nw, e_ar a n cI 14 nx]) (wr := [e_Pak a Pak_singles Pak_runs Pak_longest, e_Fin a Fin_chained Fin_length Fin_distance, e_ar a n cI 9 rb, e_ar a n cI 13 nw, e_ar a n cI 14 nx]) (As := []) (rest := []) E hw (c_Out_endByte (l := l) (dC := dC) (dI := dI) (cI := cI) (tb := tb) (a := a) (n := n) (Out_size := u6.1) (Out_gathered := u6.2.1) (Out_gatheredBits := u6.2.2.1) (ob := u6.2.2.2)  h) tw406 tw357 tw358 tw40 tw359 0 (by decide) ⟨Nat.le_of_ble_eq_true rfl, Nat.le_of_ble_eq_true rfl⟩ ⟨Nat.le_of_ble_eq_true rfl, Nat.le_of_ble_eq_true rfl⟩ ⟨rfl, rfl⟩ rfl rfl 0 rfl [0, 4] [1, 2, 3, 5, 6] [5, 0, 1, 2, 6, 3, 4] rfl rfl rfl rfl (by decide) rfl (fun _ => rfl) hl.1 rfl rfl (Nat.le_of_ble_eq_true rfl) d_Pak_pack_118 (fun u8 H locs h hw => ?_)
      exact retV (out := fun u => [e_Out a u.1 u.2.1 u.2.2.1, e_Pak a u.2.2.2.1 u.2.2.2.2.1 u.2.2.2.2.2.1, e_Fin a u.2.2.2.2.2.2.1 u.2.2.2.2.2.2.2.1 u.2.2.2.2.2.2.2.2.1, e_ar a n cI 9 rb, e_ar a n cI 11 u.2.2.2.2.2.2.2.2.2.1, e_ar a n cI 13 u.2.2.2.2.2.2.2.2.2.2.1, e_ar a n cI 14 u.2.2.2.2.2.2.2.2.2.2.2]) (u := (u8.1, u8.2.1, u8.2.2.1, Pak_singles, Pak_runs, Pak_longest, Fin_chained, Fin_length, Fin_distance, u8.2.2.2, nw, nx)) E hr hlk hw h d_Pak_pack_121
    · have h := h.2 c5
      refine lv_aload_n hx hb d_Pak_pack_42 rfl (lv_at hl 0 rfl) ?_
      refine kget (v := .ref (a 6)) (T := F_Pak) E hw in_Pak rfl 1 2 rfl (by decide) tw191 rfl d_Pak_pack_43 ?_
      refine lv_iload_n hx hb d_Pak_pack_46 rfl (lv_at hl 1 rfl) ?_
      refine kVv (y := y_Fin_lookFrom) (ws' := fun u10 => [e_Out a Out_size Out_gathered Out_gatheredBits, e_Pak a Pak_singles Pak_runs Pak_longest, e_Fin a u10.1 u10.2.1 u10.2.2.1, e_ar a n cI 9 rb, e_ar a n cI 11 ob, e_ar a n cI 13 u10.2.2.2.1, e_ar a n cI 14 u10.2.2.2.2]) (wr := [e_Out a Out_size Out_gathered Out_gatheredBits, e_Pak a Pak_singles Pak_runs Pak_longest, e_ar a n cI 11 ob]) (As := [.int y1]) (rest := []) E hw (c_Fin_lookFrom (l := l) (dC := dC) (dI := dI) (cI := cI) (tb := tb) (a := a) (n := n) (Fin_chained := Fin_chained) (Fin_length := Fin_length) (Fin_distance := Fin_distance) (rb := rb) (nw := nw) (nx := nx) (x1 := y1) h) tw360 tw361 tw362 tw43 tw363 1 (by decide) ⟨Nat.le_of_ble_eq_true rfl, Nat.le_of_ble_eq_true rfl⟩ ⟨Nat.le_of_ble_eq_true rfl, Nat.le_of_ble_eq_true rfl⟩ ⟨rfl, rfl⟩ rfl rfl 2 rfl [2, 3, 5, 6] [0, 1, 4] [0, 1, 3, 4, 2, 5, 6] rfl rfl rfl rfl (by decide) rfl (fun _ => rfl) hl.1 rfl rfl (Nat.le_of_ble_eq_true rfl) d_Pak_pack_47 (fun u10 H locs h hw => ?_)
      refine lv_aload_n hx hb d_Pak_pack_50 rfl (lv_at hl 0 rfl) ?_
      refine kget (v := .ref (a 6)) (T := F_Pak) E hw in_Pak rfl 1 2 rfl (by decide) tw191 rfl d_Pak_pack_51 ?_
      refine kget (v := .int u10.2.1) (T := F_Fin) E hw in_Fin rfl 2 4 rfl (by decide) tw172 rfl d_Pak_pack_54 ?_
      refine lv_if_le (tgt := 91) hx hb d_Pak_pack_57 (by decide) (fun c12 => ?_) (fun c12 => ?_)
      · have h := h.1 c12
        refine lv_aload_n hx hb d_Pak_pack_91 rfl (lv_at hl 0 rfl) ?_
        refine lv_aload_n hx hb d_Pak_pack_92 rfl (lv_at hl 0 rfl) ?_
        refine kget (v := .ref (a 9)) (T := F_Pak) E hw in_Pak rfl 1 0 rfl (by decide) tw189 rfl d_Pak_pack_93 ?_
        refine lv_iload_n hx hb d_Pak_pack_96 rfl (lv_at hl 1 rfl) ?_
        obtain ⟨b13, h⟩ := h
        refine kald E hw 3 rfl b13 d_Pak_pack_97 ?_
        refine kVv (y := y_Pak_addSingle) (ws' := fun u14 => [e_Out a u14.1 u14.2.1 u14.2.2.1, e_Pak a u14.2.2.2.1 Pak_runs Pak_longest, e_Fin a u10.1 u10.2.1 u10.2.2.1, e_ar a n cI 9 rb, e_ar a n cI 11 u14.2.2.2.2, e_ar a n cI 13 u10.2.2.2.1, e_ar a n cI 14 u10.2.2.2.2]) (wr := [e_Fin a u10.1 u10.2.1 u10.2.2.1, e_ar a n cI 9 rb, e_ar a n cI 13 u10.2.2.2.1, e_ar a n cI 14 u10.2.2.2.2]) (As := [.int (rb (y1 : Int32).toNatClampNeg)]) (rest := []) E hw (c_Pak_addSingle (l := l) (dC := dC) (dI := dI) (cI := cI) (tb := tb) (a := a) (n := n) (Out_size := Out_size) (Out_gathered := Out_gathered) (Out_gatheredBits := Out_gatheredBits) (Pak_singles := Pak_singles) (Pak_runs := Pak_runs) (Pak_longest := Pak_longest) (ob := ob) (x1 := rb (y1 : Int32).toNatClampNeg) h) tw402 tw404 tw15 tw42 tw405 1 (by decide) ⟨Nat.le_of_ble_eq_true rfl, Nat.le_of_ble_eq_true rfl⟩ ⟨Nat.le_of_ble_eq_true rfl, Nat.le_of_ble_eq_true rfl⟩ ⟨rfl, rfl⟩ rfl rfl 1 rfl [0, 1, 4] [2, 3, 5, 6] [4, 5, 0, 1, 6, 2, 3] rfl rfl rfl rfl (by decide) rfl (fun _ => rfl) hl.1 rfl rfl (Nat.le_of_ble_eq_true rfl) d_Pak_pack_98 (fun u14 H locs h hw => ?_)
        obtain ⟨z16, ez16⟩ : ∃ z : Int32, z = y1 + 1 := ⟨_, rfl⟩
        have h := h z16 ez16
        refine lv_iinc (v := z16) (lv' := [(1, .int z16), (0, .ref (a 5))]) hx hb d_Pak_pack_101 hl (k := 1) rfl (by rw [ez16]; exact congrArg (y1 + ·) (by decide)) (by decide) rfl (fun ls hl => ?_)
        refine lv_goto (tgt := 33) hx hb d_Pak_pack_104 (by decide) ?_
        exact ih u14.1 u14.2.1 u14.2.2.1 u14.2.2.2.1 Pak_runs Pak_longest u10.1 u10.2.1 u10.2.2.1 u14.2.2.2.2 u10.2.2.2.1 u10.2.2.2.2 z16 _ _ ls hw (lv_sub hl [1, 0] rfl) h
      · have h := h.2 c12
        refine lv_aload_n hx hb d_Pak_pack_60 rfl (lv_at hl 0 rfl) ?_
        refine lv_aload_n hx hb d_Pak_pack_61 rfl (lv_at hl 0 rfl) ?_
        refine kget (v := .ref (a 6)) (T := F_Pak) E hw in_Pak rfl 1 2 rfl (by decide) tw191 rfl d_Pak_pack_62 ?_
        refine kget (v := .int u10.2.1) (T := F_Fin) E hw in_Fin rfl 2 4 rfl (by decide) tw172 rfl d_Pak_pack_65 ?_
        refine lv_aload_n hx hb d_Pak_pack_68 rfl (lv_at hl 0 rfl) ?_
        refine kget (v := .ref (a 6)) (T := F_Pak) E hw in_Pak rfl 1 2 rfl (by decide) tw191 rfl d_Pak_pack_69 ?_
        refine kget (v := .int u10.2.2.1) (T := F_Fin) E hw in_Fin rfl 2 5 rfl (by decide) tw174 rfl d_Pak_pack_72 ?_
        refine kVv (y := y_Pak_addRun) (ws' := fun u17 => [e_Out a u17.1 u17.2.1 u17.2.2.1, e_Pak a Pak_singles u17.2.2.2.1 u17.2.2.2.2.1, e_Fin a u10.1 u10.2.1 u10.2.2.1, e_ar a n cI 9 rb, e_ar a n cI 11 u17.2.2.2.2.2, e_ar a n cI 13 u10.2.2.2.1, e_ar a n cI 14 u10.2.2.2.2]) (wr := [e_Fin a u10.1 u10.2.1 u10.2.2.1, e_ar a n cI 9 rb, e_ar a n cI 13 u10.2.2.2.1, e_ar a n cI 14 u10.2.2.2.2]) (As := [.int u10.2.1, .int u10.2.2.1]) (rest := []) E hw (c_Pak_addRun (l := l) (dC := dC) (dI := dI) (cI := cI) (tb := tb) (a := a) (n := n) (Out_size := Out_size) (Out_gathered := Out_gathered) (Out_gatheredBits := Out_gatheredBits) (Pak_singles := Pak_singles) (Pak_runs := Pak_runs) (Pak_longest := Pak_longest) (ob := ob) (x1 := u10.2.1) (x2 := u10.2.2.1) h) tw377 tw379 tw10 tw42 tw380 2 (by decide) ⟨Nat.le_of_ble_eq_true rfl, Nat.le_of_ble_eq_true rfl⟩ ⟨Nat.le_of_ble_eq_true rfl, Nat.le_of_ble_eq_true rfl⟩ ⟨rfl, rfl⟩ rfl rfl 1 rfl [0, 1, 4] [2, 3, 5, 6] [4, 5, 0, 1, 6, 2, 3] rfl rfl rfl rfl (by decide) rfl (fun _ => rfl) hl.1 rfl rfl (Nat.le_of_ble_eq_true rfl) d_Pak_pack_75 (fun u17 H locs h hw => ?_)
        refine lv_iload_n hx hb d_Pak_pack_78 rfl (lv_at hl 1 rfl) ?_
        refine lv_aload_n hx hb d_Pak_pack_79 rfl (lv_at hl 0 rfl) ?_
        refine kget (v := .ref (a 6)) (T := F_Pak) E hw in_Pak rfl 1 2 rfl (by decide) tw191 rfl d_Pak_pack_80 ?_
        refine kget (v := .int u10.2.1) (T := F_Fin) E hw in_Fin rfl 2 4 rfl (by decide) tw172 rfl d_Pak_pack_83 ?_
        refine lv_iadd hx hb d_Pak_pack_86 ?_
        refine lv_topi (fun z19 ez19 => ?_)
        have h := h z19 ez19
        refine lv_istore_n (lv' := [(1, .int z19), (0, .ref (a 5))]) hx hb d_Pak_pack_87 rfl hl (by decide) rfl (fun ls hl => ?_)
        refine lv_goto (tgt := 33) hx hb d_Pak_pack_88 (by decide) ?_
        exact ih u17.1 u17.2.1 u17.2.2.1 Pak_singles u17.2.2.2.1 u17.2.2.2.2.1 u10.1 u10.2.1 u10.2.2.1 u17.2.2.2.2.2 u10.2.2.2.1 u10.2.2.2.2 z19 _ _ ls hw (lv_sub hl [1, 0] rfl) h
set_option maxHeartbeats 2000000 in
set_option maxRecDepth 20000 in
theorem c_Pak_pack {l : Launch} {dC : Nat → ClassId} {dI : Nat → Nat → Nat} {cI : ClassId} {tb a n : Nat → Nat} {Out_size : Int32} {Out_gathered : Int32} {Out_gatheredBits : Int32} {Pak_singles : Int32} {Pak_runs : Int32} {Pak_longest : Int32} {Fin_chained : Int32} {Fin_length : Int32} {Fin_distance : Int32} {rb : Nat → Int32} {ob : Nat → Int32} {nw : Nat → Int32} {nx : Nat → Int32} {post : Int32 × Int32 × Int32 × Int32 × Int32 × Int32 × Int32 × Int32 × Int32 × (Nat → Int32) × (Nat → Int32) × (Nat → Int32) → Prop} (h : wp_Pak_pack n Out_size Out_gathered Out_gatheredBits Pak_singles Pak_runs Pak_longest Fin_chained Fin_length Fin_distance rb ob nw nx post) : CtV classes dC dI cI tb l y_Pak_pack prog_4_method_2_code 2 ({ frames := 8, cells := 0, slots := 0, locals := 172 }) [.ref (a 5)] [e_Out a Out_size Out_gathered Out_gatheredBits, e_Pak a Pak_singles Pak_runs Pak_longest, e_Fin a Fin_chained Fin_length Fin_distance, e_ar a n cI 9 rb, e_ar a n cI 11 ob, e_ar a n cI 13 nw, e_ar a n cI 14 nx] (Int32 × Int32 × Int32 × Int32 × Int32 × Int32 × Int32 × Int32 × Int32 × (Nat → Int32) × (Nat → Int32) × (Nat → Int32)) (fun u => [e_Out a u.1 u.2.1 u.2.2.1, e_Pak a u.2.2.2.1 u.2.2.2.2.1 u.2.2.2.2.2.1, e_Fin a u.2.2.2.2.2.2.1 u.2.2.2.2.2.2.2.1 u.2.2.2.2.2.2.2.2.1, e_ar a n cI 9 rb, e_ar a n cI 11 u.2.2.2.2.2.2.2.2.2.1, e_ar a n cI 13 u.2.2.2.2.2.2.2.2.2.2.1, e_ar a n cI 14 u.2.2.2.2.2.2.2.2.2.2.2]) post := by
  refine startV (by decide) (Nat.le_of_ble_eq_true rfl) ?_
  intro p e s m below meth c ls E hr hlk hnm hl hw
  have hl : lv_has ls 2 [(0, .ref (a 5))] := hl
  generalize va_A [e_Out a Out_size Out_gathered Out_gatheredBits, e_Pak a Pak_singles Pak_runs Pak_longest, e_Fin a Fin_chained Fin_length Fin_distance, e_ar a n cI 9 rb, e_ar a n cI 11 ob, e_ar a n cI 13 nw, e_ar a n cI 14 nx] s.heap.size = A at hw ⊢
  obtain ⟨hx, hb, hml, hown, hts⟩ := id E
  unfold wp_Pak_pack at h
  refine lv_aload_n hx hb d_Pak_pack_0 rfl (lv_at hl 0 rfl) ?_
  refine lv_iconst (v := 0) hx hb d_Pak_pack_1 (by decide) ?_
  refine kput (v := .int 0) (ty := .int) (T := F_Pak) (ws' := [e_Out a Out_size Out_gathered Out_gatheredBits, e_Pak a 0 Pak_runs Pak_longest, e_Fin a Fin_chained Fin_length Fin_distance, e_ar a n cI 9 rb, e_ar a n cI 11 ob, e_ar a n cI 13 nw, e_ar a n cI 14 nx]) E hw in_Pak t_Pak t_Pak_ok n_Pak rfl 1 3 rfl (by decide) tw192 rfl rfl rfl rfl (Nat.le_of_ble_eq_true rfl) rfl d_Pak_pack_2 (fun H locs hw => ?_)
  refine lv_aload_n hx hb d_Pak_pack_5 rfl (lv_at hl 0 rfl) ?_
  refine lv_iconst (v := 0) hx hb d_Pak_pack_6 (by decide) ?_
  refine kput (v := .int 0) (ty := .int) (T := F_Pak) (ws' := [e_Out a Out_size Out_gathered Out_gatheredBits, e_Pak a 0 0 Pak_longest, e_Fin a Fin_chained Fin_length Fin_distance, e_ar a n cI 9 rb, e_ar a n cI 11 ob, e_ar a n cI 13 nw, e_ar a n cI 14 nx]) E hw in_Pak t_Pak t_Pak_ok n_Pak rfl 1 4 rfl (by decide) tw194 rfl rfl rfl rfl (Nat.le_of_ble_eq_true rfl) rfl d_Pak_pack_7 (fun H locs hw => ?_)
  refine lv_aload_n hx hb d_Pak_pack_10 rfl (lv_at hl 0 rfl) ?_
  refine lv_iconst (v := 0) hx hb d_Pak_pack_11 (by decide) ?_
  refine kput (v := .int 0) (ty := .int) (T := F_Pak) (ws' := [e_Out a Out_size Out_gathered Out_gatheredBits, e_Pak a 0 0 0, e_Fin a Fin_chained Fin_length Fin_distance, e_ar a n cI 9 rb, e_ar a n cI 11 ob, e_ar a n cI 13 nw, e_ar a n cI 14 nx]) E hw in_Pak t_Pak t_Pak_ok n_Pak rfl 1 5 rfl (by decide) tw196 rfl rfl rfl rfl (Nat.le_of_ble_eq_true rfl) rfl d_Pak_pack_12 (fun H locs hw => ?_)
  refine lv_aload_n hx hb d_Pak_pack_15 rfl (lv_at hl 0 rfl) ?_
  refine kget (v := .ref (a 6)) (T := F_Pak) E hw in_Pak rfl 1 2 rfl (by decide) tw191 rfl d_Pak_pack_16 ?_
  refine kVv (y := y_Fin_restart) (ws' := fun u1 => [e_Out a Out_size Out_gathered Out_gatheredBits, e_Pak a 0 0 0, e_Fin a u1.1 Fin_length Fin_distance, e_ar a n cI 9 rb, e_ar a n cI 11 ob, e_ar a n cI 13 u1.2, e_ar a n cI 14 nx]) (wr := [e_Out a Out_size Out_gathered Out_gatheredBits, e_Pak a 0 0 0, e_ar a n cI 9 rb, e_ar a n cI 11 ob, e_ar a n cI 14 nx]) (As := []) (rest := []) E hw (c_Fin_restart (l := l) (dC := dC) (dI := dI) (cI := cI) (tb := tb) (a := a) (n := n) (Fin_chained := Fin_chained) (Fin_length := Fin_length) (Fin_distance := Fin_distance) (nw := nw)  h) tw343 tw344 tw345 tw43 tw346 0 (by decide) ⟨Nat.le_of_ble_eq_true rfl, Nat.le_of_ble_eq_true rfl⟩ ⟨Nat.le_of_ble_eq_true rfl, Nat.le_of_ble_eq_true rfl⟩ ⟨rfl, rfl⟩ rfl rfl 2 rfl [2, 5] [0, 1, 3, 4, 6] [0, 1, 5, 2, 3, 6, 4] rfl rfl rfl rfl (by decide) rfl (fun _ => rfl) hl.1 rfl rfl (Nat.le_of_ble_eq_true rfl) d_Pak_pack_19 (fun u1 H locs h hw => ?_)
  refine lv_aload_n hx hb d_Pak_pack_22 rfl (lv_at hl 0 rfl) ?_
  refine kget (v := .ref (a 3)) (T := F_Pak) E hw in_Pak rfl 1 1 rfl (by decide) tw190 rfl d_Pak_pack_23 ?_
  refine lv_iconst (v := 3) hx hb d_Pak_pack_26 (by decide) ?_
  refine lv_iconst (v := 3) hx hb d_Pak_pack_27 (by decide) ?_
  refine kVv (y := y_Out_addBitsLowestFirst) (ws' := fun u3 => [e_Out a u3.1 u3.2.1 u3.2.2.1, e_Pak a 0 0 0, e_Fin a u1.1 Fin_length Fin_distance, e_ar a n cI 9 rb, e_ar a n cI 11 u3.2.2.2, e_ar a n cI 13 u1.2, e_ar a n cI 14 nx]) (wr := [e_Pak a 0 0 0, e_Fin a u1.1 Fin_length Fin_distance, e_ar a n cI 9 rb, e_ar a n cI 13 u1.2, e_ar a n cI 14 nx]) (As := [.int 3, .int 3]) (rest := []) E hw (c_Out_addBitsLowestFirst (l := l) (dC := dC) (dI := dI) (cI := cI) (tb := tb) (a := a) (n := n) (Out_size := Out_size) (Out_gathered := Out_gathered) (Out_gatheredBits := Out_gatheredBits) (ob := ob) (x1 := 3) (x2 := 3) h) tw348 tw349 tw350 tw40 tw351 2 (by decide) ⟨Nat.le_of_ble_eq_true rfl, Nat.le_of_ble_eq_true rfl⟩ ⟨Nat.le_of_ble_eq_true rfl, Nat.le_of_ble_eq_true rfl⟩ ⟨rfl, rfl⟩ rfl rfl 0 rfl [0, 4] [1, 2, 3, 5, 6] [5, 0, 1, 2, 6, 3, 4] rfl rfl rfl rfl (by decide) rfl (fun _ => rfl) hl.1 rfl rfl (Nat.le_of_ble_eq_true rfl) d_Pak_pack_28 (fun u3 H locs h hw => ?_)
  refine lv_iconst (v := 0) hx hb d_Pak_pack_31 (by decide) ?_
  refine lv_istore_n (lv' := [(1, .int 0), (0, .ref (a 5))]) hx hb d_Pak_pack_32 rfl hl (by decide) rfl (fun ls hl => ?_)
  obtain ⟨N20, h⟩ := h
  exact s_Pak_pack_33 (a := a) (n := n) (tb := tb) E hr hlk  N20 u3.1 u3.2.1 u3.2.2.1 0 0 0 u1.1 Fin_length Fin_distance u3.2.2.2 u1.2 nx 0 _ _ ls hw (lv_sub hl [1, 0] rfl) h
end
section
-- PicturePacker.side(I)I
theorem d_PP_side_0 : decode prog_1_method_9_code 0 = .ok (.iconst 1, 1) := by decide +kernel
theorem d_PP_side_1 : decode prog_1_method_9_code 1 = .ok (.iload_n 0, 1) := by decide +kernel
theorem d_PP_side_2 : decode prog_1_method_9_code 2 = .ok (.bipush 48, 2) := by decide +kernel
theorem d_PP_side_4 : decode prog_1_method_9_code 4 = .ok (.invokestatic 83, 3) := by decide +kernel
theorem d_PP_side_7 : decode prog_1_method_9_code 7 = .ok (.invokestatic 73, 3) := by decide +kernel
theorem d_PP_side_10 : decode prog_1_method_9_code 10 = .ok (.ireturn, 1) := by decide +kernel
abbrev y_PP_side : MethodName := ⟨"PicturePacker", "side", "(I)I"⟩
def wp_PP_side (n : Nat → Nat) (x0 : Int32) (post : Int32 → Unit → Prop) : Prop := post (if (1 : Int32) < (if (48 : Int32) < x0 then 48 else x0) then if (48 : Int32) < x0 then 48 else x0 else 1) ()
set_option maxHeartbeats 2000000 in
set_option maxRecDepth 20000 in
theorem c_PP_side {l : Launch} {dC : Nat → ClassId} {dI : Nat → Nat → Nat} {cI : ClassId} {tb a n : Nat → Nat} {x0 : Int32} {post : Int32 → Unit → Prop} (h : wp_PP_side n x0 post) : CtI classes dC dI cI tb l y_PP_side prog_1_method_9_code 1 .int ({ frames := 1, cells := 0, slots := 0, locals := 21 }) [.int x0] [] (Unit) (fun _ => []) post := by
  refine startI (by decide) (Nat.le_of_ble_eq_true rfl) ?_
  intro p e s m below meth c ls E hr hlk hnm hl hw
  have hl : lv_has ls 1 [(0, .int x0)] := hl
  generalize va_A [] s.heap.size = A at hw ⊢
  obtain ⟨hx, hb, hml, hown, hts⟩ := id E
  unfold wp_PP_side at h
  refine lv_iconst (v := 1) hx hb d_PP_side_0 (by decide) ?_
  refine lv_iload_n hx hb d_PP_side_1 rfl (lv_at hl 0 rfl) ?_
  refine lv_bipush (v := 48) hx hb d_PP_side_2 (by decide) ?_
  refine kmin E hl.1 tw58 tw59 tw37 tw60 (Nat.le_of_ble_eq_true rfl) (Nat.le_of_ble_eq_true rfl) (Nat.le_of_ble_eq_true rfl) (Nat.le_of_ble_eq_true rfl) d_PP_side_4 ?_
  refine kmax E hl.1 tw61 tw62 tw37 tw63 (Nat.le_of_ble_eq_true rfl) (Nat.le_of_ble_eq_true rfl) (Nat.le_of_ble_eq_true rfl) (Nat.le_of_ble_eq_true rfl) d_PP_side_7 ?_
  exact retI (out := fun u => []) (u := ()) E hr hlk rfl hw h d_PP_side_10
-- PicturePacker.set(III)Z
theorem d_PP_set_0 : decode prog_1_method_2_code 0 = .ok (.aload_n 0, 1) := by decide +kernel
theorem d_PP_set_1 : decode prog_1_method_2_code 1 = .ok (.getfield 18, 3) := by decide +kernel
theorem d_PP_set_4 : decode prog_1_method_2_code 4 = .ok (.iload_n 1, 1) := by decide +kernel
theorem d_PP_set_5 : decode prog_1_method_2_code 5 = .ok (.iload_n 2, 1) := by decide +kernel
theorem d_PP_set_6 : decode prog_1_method_2_code 6 = .ok (.invokevirtual 65, 3) := by decide +kernel
theorem d_PP_set_9 : decode prog_1_method_2_code 9 = .ok (.ifCond .ne 5, 3) := by decide +kernel
theorem d_PP_set_12 : decode prog_1_method_2_code 12 = .ok (.iconst 0, 1) := by decide +kernel
theorem d_PP_set_13 : decode prog_1_method_2_code 13 = .ok (.ireturn, 1) := by decide +kernel
theorem d_PP_set_14 : decode prog_1_method_2_code 14 = .ok (.aload_n 0, 1) := by decide +kernel
theorem d_PP_set_15 : decode prog_1_method_2_code 15 = .ok (.getfield 18, 3) := by decide +kernel
theorem d_PP_set_18 : decode prog_1_method_2_code 18 = .ok (.iload_n 1, 1) := by decide +kernel
theorem d_PP_set_19 : decode prog_1_method_2_code 19 = .ok (.iload_n 2, 1) := by decide +kernel
theorem d_PP_set_20 : decode prog_1_method_2_code 20 = .ok (.iload_n 3, 1) := by decide +kernel
theorem d_PP_set_21 : decode prog_1_method_2_code 21 = .ok (.invokevirtual 69, 3) := by decide +kernel
theorem d_PP_set_24 : decode prog_1_method_2_code 24 = .ok (.iconst 1, 1) := by decide +kernel
theorem d_PP_set_25 : decode prog_1_method_2_code 25 = .ok (.ireturn, 1) := by decide +kernel
abbrev y_PP_set : MethodName := ⟨"PicturePacker", "set", "(III)Z"⟩
def wp_PP_set (n : Nat → Nat) (Pic_width : Int32) (Pic_height : Int32) (Pic_stride : Int32) (pb : Nat → Int32) (x1 : Int32) (x2 : Int32) (x3 : Int32) (post : Int32 → ((Nat → Int32)) → Prop) : Prop := wp_Pic_has n Pic_width Pic_height x1 x2 (fun r2 _ => (¬ (r2 : Int32) = 0 → (wp_Pic_paint n Pic_stride pb x1 x2 x3 (fun u4 => narrow .boolean (.int 1) = .int 1 ∧ post 1 u4))) ∧ ((r2 : Int32) = 0 → (narrow .boolean (.int 0) = .int 0 ∧ post 0 pb)))
set_option maxHeartbeats 2000000 in
set_option maxRecDepth 20000 in
theorem c_PP_set {l : Launch} {dC : Nat → ClassId} {dI : Nat → Nat → Nat} {cI : ClassId} {tb a n : Nat → Nat} {Pic_width : Int32} {Pic_height : Int32} {Pic_stride : Int32} {pb : Nat → Int32} {x1 : Int32} {x2 : Int32} {x3 : Int32} {post : Int32 → ((Nat → Int32)) → Prop} (h : wp_PP_set n Pic_width Pic_height Pic_stride pb x1 x2 x3 post) : CtI classes dC dI cI tb l y_PP_set prog_1_method_2_code 4 .boolean ({ frames := 2, cells := 0, slots := 0, locals := 46 }) [.ref (a 0), .int x1, .int x2, .int x3] [e_PP a, e_Pic a Pic_width Pic_height Pic_stride, e_ar a n cI 8 pb] ((Nat → Int32)) (fun u => [e_PP a, e_Pic a Pic_width Pic_height Pic_stride, e_ar a n cI 8 u]) post := by
  refine startI (by decide) (Nat.le_of_ble_eq_true rfl) ?_
  intro p e s m below meth c ls E hr hlk hnm hl hw
  have hl : lv_has ls 4 [(0, .ref (a 0)), (1, .int x1), (2, .int x2), (3, .int x3)] := hl
  generalize va_A [e_PP a, e_Pic a Pic_width Pic_height Pic_stride, e_ar a n cI 8 pb] s.heap.size = A at hw ⊢
  obtain ⟨hx, hb, hml, hown, hts⟩ := id E
  unfold wp_PP_set at h
  refine lv_aload_n hx hb d_PP_set_0 rfl (lv_at hl 0 rfl) ?_
  refine kget (v := .ref (a 1)) (T := F_PP) E hw in_PP rfl 0 0 rfl (by decide) tw211 rfl d_PP_set_1 ?_
  refine lv_iload_n hx hb d_PP_set_4 rfl (lv_at hl 1 rfl) ?_
  refine lv_iload_n hx hb d_PP_set_5 rfl (lv_at hl 2 rfl) ?_
  refine kVi (y := y_Pic_has) (ws' := fun _ => [e_PP a, e_Pic a Pic_width Pic_height Pic_stride, e_ar a n cI 8 pb]) (wr := [e_PP a, e_ar a n cI 8 pb]) (As := [.int x1, .int x2]) (rest := []) E hw (c_Pic_has (l := l) (dC := dC) (dI := dI) (cI := cI) (tb := tb) (a := a) (n := n) (Pic_width := Pic_width) (Pic_height := Pic_height) (Pic_stride := Pic_stride) (x1 := x1) (x2 := x2) h) tw231 tw232 tw233 tw36 tw234 2 (by decide) ⟨Nat.le_of_ble_eq_true rfl, Nat.le_of_ble_eq_true rfl⟩ ⟨Nat.le_of_ble_eq_true rfl, Nat.le_of_ble_eq_true rfl⟩ ⟨rfl, rfl⟩ rfl rfl 1 rfl [1] [0, 2] [0, 2, 1] rfl rfl rfl rfl (by decide) rfl (fun _ => rfl) hl.1 rfl rfl (Nat.le_of_ble_eq_true rfl) d_PP_set_6 (fun r2 u1 H locs h hw => ?_)
  refine lv_if_ne (tgt := 14) hx hb d_PP_set_9 (by decide) (fun c3 => ?_) (fun c3 => ?_)
  · have h := h.1 c3
    refine lv_aload_n hx hb d_PP_set_14 rfl (lv_at hl 0 rfl) ?_
    refine kget (v := .ref (a 1)) (T := F_PP) E hw in_PP rfl 0 0 rfl (by decide) tw211 rfl d_PP_set_15 ?_
    refine lv_iload_n hx hb d_PP_set_18 rfl (lv_at hl 1 rfl) ?_
    refine lv_iload_n hx hb d_PP_set_19 rfl (lv_at hl 2 rfl) ?_
    refine lv_iload_n hx hb d_PP_set_20 rfl (lv_at hl 3 rfl) ?_
    refine kVv (y := y_Pic_paint) (ws' := fun u4 => [e_PP a, e_Pic a Pic_width Pic_height Pic_stride, e_ar a n cI 8 u4]) (wr := [e_PP a]) (As := [.int x1, .int x2, .int x3]) (rest := []) E hw (c_Pic_paint (l := l) (dC := dC) (dI := dI) (cI := cI) (tb := tb) (a := a) (n := n) (Pic_width := Pic_width) (Pic_height := Pic_height) (Pic_stride := Pic_stride) (pb := pb) (x1 := x1) (x2 := x2) (x3 := x3) h) tw235 tw236 tw237 tw36 tw238 3 (by decide) ⟨Nat.le_of_ble_eq_true rfl, Nat.le_of_ble_eq_true rfl⟩ ⟨Nat.le_of_ble_eq_true rfl, Nat.le_of_ble_eq_true rfl⟩ ⟨rfl, rfl⟩ rfl rfl 1 rfl [1, 2] [0] [0, 1, 2] rfl rfl rfl rfl (by decide) rfl (fun _ => rfl) hl.1 rfl rfl (Nat.le_of_ble_eq_true rfl) d_PP_set_21 (fun u4 H locs h hw => ?_)
    refine lv_iconst (v := 1) hx hb d_PP_set_24 (by decide) ?_
    exact retI (out := fun u => [e_PP a, e_Pic a Pic_width Pic_height Pic_stride, e_ar a n cI 8 u]) (u := u4) E hr hlk h.1 hw h.2 d_PP_set_25
  · have h := h.2 c3
    refine lv_iconst (v := 0) hx hb d_PP_set_12 (by decide) ?_
    exact retI (out := fun u => [e_PP a, e_Pic a Pic_width Pic_height Pic_stride, e_ar a n cI 8 u]) (u := pb) E hr hlk h.1 hw h.2 d_PP_set_13
-- PicturePacker.fill(IIII)I
theorem d_PP_fill_0 : decode prog_1_method_3_code 0 = .ok (.iload_n 2, 1) := by decide +kernel
theorem d_PP_fill_1 : decode prog_1_method_3_code 1 = .ok (.iconst 0, 1) := by decide +kernel
theorem d_PP_fill_2 : decode prog_1_method_3_code 2 = .ok (.invokestatic 73, 3) := by decide +kernel
theorem d_PP_fill_5 : decode prog_1_method_3_code 5 = .ok (.istore 5, 2) := by decide +kernel
theorem d_PP_fill_7 : decode prog_1_method_3_code 7 = .ok (.iload_n 3, 1) := by decide +kernel
theorem d_PP_fill_8 : decode prog_1_method_3_code 8 = .ok (.aload_n 0, 1) := by decide +kernel
theorem d_PP_fill_9 : decode prog_1_method_3_code 9 = .ok (.getfield 18, 3) := by decide +kernel
theorem d_PP_fill_12 : decode prog_1_method_3_code 12 = .ok (.getfield 79, 3) := by decide +kernel
theorem d_PP_fill_15 : decode prog_1_method_3_code 15 = .ok (.iconst 1, 1) := by decide +kernel
theorem d_PP_fill_16 : decode prog_1_method_3_code 16 = .ok (.isub, 1) := by decide +kernel
theorem d_PP_fill_17 : decode prog_1_method_3_code 17 = .ok (.invokestatic 83, 3) := by decide +kernel
theorem d_PP_fill_20 : decode prog_1_method_3_code 20 = .ok (.istore 6, 2) := by decide +kernel
theorem d_PP_fill_22 : decode prog_1_method_3_code 22 = .ok (.aload_n 0, 1) := by decide +kernel
theorem d_PP_fill_23 : decode prog_1_method_3_code 23 = .ok (.getfield 18, 3) := by decide +kernel
theorem d_PP_fill_26 : decode prog_1_method_3_code 26 = .ok (.iconst 0, 1) := by decide +kernel
theorem d_PP_fill_27 : decode prog_1_method_3_code 27 = .ok (.iload_n 1, 1) := by decide +kernel
theorem d_PP_fill_28 : decode prog_1_method_3_code 28 = .ok (.invokevirtual 65, 3) := by decide +kernel
theorem d_PP_fill_31 : decode prog_1_method_3_code 31 = .ok (.ifCond .eq 10, 3) := by decide +kernel
theorem d_PP_fill_34 : decode prog_1_method_3_code 34 = .ok (.iload 5, 2) := by decide +kernel
theorem d_PP_fill_36 : decode prog_1_method_3_code 36 = .ok (.iload 6, 2) := by decide +kernel
theorem d_PP_fill_38 : decode prog_1_method_3_code 38 = .ok (.if_icmp .le 5, 3) := by decide +kernel
theorem d_PP_fill_41 : decode prog_1_method_3_code 41 = .ok (.iconst 0, 1) := by decide +kernel
theorem d_PP_fill_42 : decode prog_1_method_3_code 42 = .ok (.ireturn, 1) := by decide +kernel
theorem d_PP_fill_43 : decode prog_1_method_3_code 43 = .ok (.iload 5, 2) := by decide +kernel
theorem d_PP_fill_45 : decode prog_1_method_3_code 45 = .ok (.istore 7, 2) := by decide +kernel
theorem d_PP_fill_47 : decode prog_1_method_3_code 47 = .ok (.iload 7, 2) := by decide +kernel
theorem d_PP_fill_49 : decode prog_1_method_3_code 49 = .ok (.iload 6, 2) := by decide +kernel
theorem d_PP_fill_51 : decode prog_1_method_3_code 51 = .ok (.if_icmp .gt 21, 3) := by decide +kernel
theorem d_PP_fill_54 : decode prog_1_method_3_code 54 = .ok (.aload_n 0, 1) := by decide +kernel
theorem d_PP_fill_55 : decode prog_1_method_3_code 55 = .ok (.getfield 18, 3) := by decide +kernel
theorem d_PP_fill_58 : decode prog_1_method_3_code 58 = .ok (.iload 7, 2) := by decide +kernel
theorem d_PP_fill_60 : decode prog_1_method_3_code 60 = .ok (.iload_n 1, 1) := by decide +kernel
theorem d_PP_fill_61 : decode prog_1_method_3_code 61 = .ok (.iload 4, 2) := by decide +kernel
theorem d_PP_fill_63 : decode prog_1_method_3_code 63 = .ok (.invokevirtual 69, 3) := by decide +kernel
theorem d_PP_fill_66 : decode prog_1_method_3_code 66 = .ok (.iinc 7 1, 3) := by decide +kernel
theorem d_PP_fill_69 : decode prog_1_method_3_code 69 = .ok (.goto (-22), 3) := by decide +kernel
theorem d_PP_fill_72 : decode prog_1_method_3_code 72 = .ok (.iload 6, 2) := by decide +kernel
theorem d_PP_fill_74 : decode prog_1_method_3_code 74 = .ok (.iload 5, 2) := by decide +kernel
theorem d_PP_fill_76 : decode prog_1_method_3_code 76 = .ok (.isub, 1) := by decide +kernel
theorem d_PP_fill_77 : decode prog_1_method_3_code 77 = .ok (.iconst 1, 1) := by decide +kernel
theorem d_PP_fill_78 : decode prog_1_method_3_code 78 = .ok (.iadd, 1) := by decide +kernel
theorem d_PP_fill_79 : decode prog_1_method_3_code 79 = .ok (.ireturn, 1) := by decide +kernel
abbrev y_PP_fill : MethodName := ⟨"PicturePacker", "fill", "(IIII)I"⟩
def wp_PP_fill_47 (n : Nat → Nat) (Pic_width : Int32) (Pic_height : Int32) (Pic_stride : Int32) (x1 : Int32) (x2 : Int32) (x3 : Int32) (x4 : Int32) (post : Int32 → ((Nat → Int32)) → Prop) : Nat → (Nat → Int32) → Int32 → Int32 → Int32 → Prop
  | 0 => fun _ _ _ _ => False
  | N + 1 => fun pb y5 y6 y7 => ((y6 : Int32) < y7 → (post ((y6 - y5) + 1) pb)) ∧ (¬ ((y6 : Int32) < y7) → (wp_Pic_paint n Pic_stride pb y7 x1 x4 (fun u8 => ∀ z10 : Int32, z10 = (y7 + 1) → (wp_PP_fill_47 n Pic_width Pic_height Pic_stride x1 x2 x3 x4 post N u8 y5 y6 z10))))
def wp_PP_fill (n : Nat → Nat) (Pic_width : Int32) (Pic_height : Int32) (Pic_stride : Int32) (pb : Nat → Int32) (x1 : Int32) (x2 : Int32) (x3 : Int32) (x4 : Int32) (post : Int32 → ((Nat → Int32)) → Prop) : Prop := ∀ z1 : Int32, z1 = (if (x2 : Int32) < 0 then 0 else x2) → (∀ z2 : Int32, z2 = (if (Pic_width - 1 : Int32) < x3 then Pic_width - 1 else x3) → (wp_Pic_has n Pic_width Pic_height 0 x1 (fun r4 _ => ((r4 : Int32) = 0 → (post 0 pb)) ∧ (¬ ((r4 : Int32) = 0) → (((z1 : Int32) ≤ z2 → (∃ N11 : Nat, wp_PP_fill_47 n Pic_width Pic_height Pic_stride x1 x2 x3 x4 post N11 pb z1 z2 z1)) ∧ (¬ ((z1 : Int32) ≤ z2) → (post 0 pb)))))))
set_option maxHeartbeats 2000000 in
set_option maxRecDepth 20000 in
theorem s_PP_fill_47 {l : Launch} {dC : Nat → ClassId} {dI : Nat → Nat → Nat} {cI : ClassId} {tb a n : Nat → Nat} {p : Program} {e : Env} {s : State} {m : MethodId} {args : Array Value} {below : List Frame} {meth : Method} {c : Code} {A : Nat → Prop} (E : CallFix p m c prog_1_method_3_code 8 s args TBL "PicturePacker") (hr : meth.sig.returnType = some .int) (hlk : meth.locks = false) {Pic_width : Int32} {Pic_height : Int32} {Pic_stride : Int32} {x1 : Int32} {x2 : Int32} {x3 : Int32} {x4 : Int32} {post : Int32 → ((Nat → Int32)) → Prop} : ∀ (N : Nat) (pb : Nat → Int32) (y5 : Int32) (y6 : Int32) (y7 : Int32) (H : Heap) (locs : List Loc) (ls : Array Slot), Wl classes dC dI cI tb A s H locs [e_PP a, e_Pic a Pic_width Pic_height Pic_stride, e_ar a n cI 8 pb] → lv_has ls 8 [(0, .ref (a 0)), (1, .int x1), (4, .int x4), (5, .int y5), (6, .int y6), (7, .int y7)] → wp_PP_fill_47 n Pic_width Pic_height Pic_stride x1 x2 x3 x4 post N pb y5 y6 y7 → W p l e ({ frames := 2, cells := 0, slots := 0, locals := 46 }) s m args below meth c H locs 0 0 (MQ below (va_Qi post (fun u => End0 classes dC dI cI A [e_PP a, e_Pic a Pic_width Pic_height Pic_stride, e_ar a n cI 8 u]) A) args s 0 0 A) (F0 m 47 ls []) := by
  obtain ⟨hx, hb, hml, hown, hts⟩ := id E
  intro N
  induction N with
  | zero =>
    intro _ _ _ _ H locs ls hw hl h
    exact absurd h id
  | succ N ih =>
    intro pb y5 y6 y7 H locs ls hw hl h
    unfold wp_PP_fill_47 at h
    refine lv_iload hx hb d_PP_fill_47 (lv_at hl 5 rfl) ?_
    refine lv_iload hx hb d_PP_fill_49 (lv_at hl 4 rfl) ?_
    refine lv_icmp_gt (tgt := 72) hx hb d_PP_fill_51 (by decide) (fun c7 => ?_) (fun c7 => ?_)
    · have h := h.1 c7
      refine lv_iload hx hb d_PP_fill_72 (lv_at hl 4 rfl) ?_
      refine lv_iload hx hb d_PP_fill_74 (lv_at hl 3 rfl) ?_
      refine lv_isub hx hb d_PP_fill_76 ?_
      refine lv_iconst (v := 1) hx hb d_PP_fill_77 (by decide) ?_
      refine lv_iadd hx hb d_PP_fill_78 ?_
      exact retI (out := fun u => [e_PP a, e_Pic a Pic_width Pic_height Pic_stride, e_ar a n cI 8 u]) (u := pb) E hr hlk rfl hw h d_PP_fill_79
    · have h := h.2 c7
      refine lv_aload_n hx hb d_PP_fill_54 rfl (lv_at hl 0 rfl) ?_
      refine kget (v := .ref (a 1)) (T := F_PP) E hw in_PP rfl 0 0 rfl (by decide) tw211 rfl d_PP_fill_55 ?_
      refine lv_iload hx hb d_PP_fill_58 (lv_at hl 5 rfl) ?_
      refine lv_iload_n hx hb d_PP_fill_60 rfl (lv_at hl 1 rfl) ?_
      refine lv_iload hx hb d_PP_fill_61 (lv_at hl 2 rfl) ?_
      refine kVv (y := y_Pic_paint) (ws' := fun u8 => [e_PP a, e_Pic a Pic_width Pic_height Pic_stride, e_ar a n cI 8 u8]) (wr := [e_PP a]) (As := [.int y7, .int x1, .int x4]) (rest := []) E hw (c_Pic_paint (l := l) (dC := dC) (dI := dI) (cI := cI) (tb := tb) (a := a) (n := n) (Pic_width := Pic_width) (Pic_height := Pic_height) (Pic_stride := Pic_stride) (pb := pb) (x1 := y7) (x2 := x1) (x3 := x4) h) tw235 tw236 tw237 tw36 tw238 3 (by decide) ⟨Nat.le_of_ble_eq_true rfl, Nat.le_of_ble_eq_true rfl⟩ ⟨Nat.le_of_ble_eq_true rfl, Nat.le_of_ble_eq_true rfl⟩ ⟨rfl, rfl⟩ rfl rfl 1 rfl [1, 2] [0] [0, 1, 2] rfl rfl rfl rfl (by decide) rfl (fun _ => rfl) hl.1 rfl rfl (Nat.le_of_ble_eq_true rfl) d_PP_fill_63 (fun u8 H locs h hw => ?_)
      obtain ⟨z10, ez10⟩ : ∃ z : Int32, z = y7 + 1 := ⟨_, rfl⟩
      have h := h z10 ez10
      refine lv_iinc (v := z10) (lv' := [(7, .int z10), (0, .ref (a 0)), (1, .int x1), (4, .int x4), (5, .int y5), (6, .int y6)]) hx hb d_PP_fill_66 hl (k := 5) rfl (by rw [ez10]; exact congrArg (y7 + ·) (by decide)) (by decide) rfl (fun ls hl => ?_)
      refine lv_goto (tgt := 47) hx hb d_PP_fill_69 (by decide) ?_
      exact ih u8 y5 y6 z10 _ _ ls hw (lv_sub hl [1, 2, 3, 4, 5, 0] rfl) h
set_option maxHeartbeats 2000000 in
set_option maxRecDepth 20000 in
theorem c_PP_fill {l : Launch} {dC : Nat → ClassId} {dI : Nat → Nat → Nat} {cI : ClassId} {tb a n : Nat → Nat} {Pic_width : Int32} {Pic_height : Int32} {Pic_stride : Int32} {pb : Nat → Int32} {x1 : Int32} {x2 : Int32} {x3 : Int32} {x4 : Int32} {post : Int32 → ((Nat → Int32)) → Prop} (h : wp_PP_fill n Pic_width Pic_height Pic_stride pb x1 x2 x3 x4 post) : CtI classes dC dI cI tb l y_PP_fill prog_1_method_3_code 8 .int ({ frames := 2, cells := 0, slots := 0, locals := 46 }) [.ref (a 0), .int x1, .int x2, .int x3, .int x4] [e_PP a, e_Pic a Pic_width Pic_height Pic_stride, e_ar a n cI 8 pb] ((Nat → Int32)) (fun u => [e_PP a, e_Pic a Pic_width Pic_height Pic_stride, e_ar a n cI 8 u]) post := by
  refine startI (by decide) (Nat.le_of_ble_eq_true rfl) ?_
  intro p e s m below meth c ls E hr hlk hnm hl hw
  have hl : lv_has ls 8 [(0, .ref (a 0)), (1, .int x1), (2, .int x2), (3, .int x3), (4, .int x4)] := hl
  generalize va_A [e_PP a, e_Pic a Pic_width Pic_height Pic_stride, e_ar a n cI 8 pb] s.heap.size = A at hw ⊢
  obtain ⟨hx, hb, hml, hown, hts⟩ := id E
  unfold wp_PP_fill at h
  refine lv_iload_n hx hb d_PP_fill_0 rfl (lv_at hl 2 rfl) ?_
  refine lv_iconst (v := 0) hx hb d_PP_fill_1 (by decide) ?_
  refine kmax E hl.1 tw61 tw62 tw37 tw63 (Nat.le_of_ble_eq_true rfl) (Nat.le_of_ble_eq_true rfl) (Nat.le_of_ble_eq_true rfl) (Nat.le_of_ble_eq_true rfl) d_PP_fill_2 ?_
  refine lv_topi (fun z1 ez1 => ?_)
  have h := h z1 ez1
  refine lv_istore (lv' := [(5, .int z1), (0, .ref (a 0)), (1, .int x1), (2, .int x2), (3, .int x3), (4, .int x4)]) hx hb d_PP_fill_5 hl (by decide) rfl (fun ls hl => ?_)
  refine lv_iload_n hx hb d_PP_fill_7 rfl (lv_at hl 4 rfl) ?_
  refine lv_aload_n hx hb d_PP_fill_8 rfl (lv_at hl 1 rfl) ?_
  refine kget (v := .ref (a 1)) (T := F_PP) E hw in_PP rfl 0 0 rfl (by decide) tw211 rfl d_PP_fill_9 ?_
  refine kget (v := .int Pic_width) (T := F_Pic) E hw in_Pic rfl 1 0 rfl (by decide) tw70 rfl d_PP_fill_12 ?_
  refine lv_iconst (v := 1) hx hb d_PP_fill_15 (by decide) ?_
  refine lv_isub hx hb d_PP_fill_16 ?_
  refine kmin E hl.1 tw58 tw59 tw37 tw60 (Nat.le_of_ble_eq_true rfl) (Nat.le_of_ble_eq_true rfl) (Nat.le_of_ble_eq_true rfl) (Nat.le_of_ble_eq_true rfl) d_PP_fill_17 ?_
  refine lv_topi (fun z2 ez2 => ?_)
  have h := h z2 ez2
  refine lv_istore (lv' := [(6, .int z2), (5, .int z1), (0, .ref (a 0)), (1, .int x1), (2, .int x2), (3, .int x3), (4, .int x4)]) hx hb d_PP_fill_20 hl (by decide) rfl (fun ls hl => ?_)
  refine lv_aload_n hx hb d_PP_fill_22 rfl (lv_at hl 2 rfl) ?_
  refine kget (v := .ref (a 1)) (T := F_PP) E hw in_PP rfl 0 0 rfl (by decide) tw211 rfl d_PP_fill_23 ?_
  refine lv_iconst (v := 0) hx hb d_PP_fill_26 (by decide) ?_
  refine lv_iload_n hx hb d_PP_fill_27 rfl (lv_at hl 3 rfl) ?_
  refine kVi (y := y_Pic_has) (ws' := fun _ => [e_PP a, e_Pic a Pic_width Pic_height Pic_stride, e_ar a n cI 8 pb]) (wr := [e_PP a, e_ar a n cI 8 pb]) (As := [.int 0, .int x1]) (rest := []) E hw (c_Pic_has (l := l) (dC := dC) (dI := dI) (cI := cI) (tb := tb) (a := a) (n := n) (Pic_width := Pic_width) (Pic_height := Pic_height) (Pic_stride := Pic_stride) (x1 := 0) (x2 := x1) h) tw231 tw232 tw233 tw36 tw234 2 (by decide) ⟨Nat.le_of_ble_eq_true rfl, Nat.le_of_ble_eq_true rfl⟩ ⟨Nat.le_of_ble_eq_true rfl, Nat.le_of_ble_eq_true rfl⟩ ⟨rfl, rfl⟩ rfl rfl 1 rfl [1] [0, 2] [0, 2, 1] rfl rfl rfl rfl (by decide) rfl (fun _ => rfl) hl.1 rfl rfl (Nat.le_of_ble_eq_true rfl) d_PP_fill_28 (fun r4 u3 H locs h hw => ?_)
  refine lv_if_eq (tgt := 41) hx hb d_PP_fill_31 (by decide) (fun c5 => ?_) (fun c5 => ?_)
  · have h := h.1 c5
    refine lv_iconst (v := 0) hx hb d_PP_fill_41 (by decide) ?_
    exact retI (out := fun u => [e_PP a, e_Pic a Pic_width Pic_height Pic_stride, e_ar a n cI 8 u]) (u := pb) E hr hlk rfl hw h d_PP_fill_42
  · have h := h.2 c5
    refine lv_iload hx hb d_PP_fill_34 (lv_at hl 1 rfl) ?_
    refine lv_iload hx hb d_PP_fill_36 (lv_at hl 0 rfl) ?_
    refine lv_icmp_le (tgt := 43) hx hb d_PP_fill_38 (by decide) (fun c6 => ?_) (fun c6 => ?_)
    · have h := h.1 c6
      refine lv_iload hx hb d_PP_fill_43 (lv_at hl 1 rfl) ?_
      refine lv_istore (lv' := [(7, .int z1), (6, .int z2), (5, .int z1), (0, .ref (a 0)), (1, .int x1), (2, .int x2), (3, .int x3), (4, .int x4)]) hx hb d_PP_fill_45 hl (by decide) rfl (fun ls hl => ?_)
      obtain ⟨N11, h⟩ := h
      exact s_PP_fill_47 (a := a) (n := n) (tb := tb) E hr hlk  N11 pb z1 z2 z1 _ _ ls hw (lv_sub hl [3, 4, 7, 2, 1, 0] rfl) h
    · have h := h.2 c6
      refine lv_iconst (v := 0) hx hb d_PP_fill_41 (by decide) ?_
      exact retI (out := fun u => [e_PP a, e_Pic a Pic_width Pic_height Pic_stride, e_ar a n cI 8 u]) (u := pb) E hr hlk rfl hw h d_PP_fill_42
-- PicturePacker.pixel(II)I
theorem d_PP_pixel_0 : decode prog_1_method_4_code 0 = .ok (.aload_n 0, 1) := by decide +kernel
theorem d_PP_pixel_1 : decode prog_1_method_4_code 1 = .ok (.getfield 18, 3) := by decide +kernel
theorem d_PP_pixel_4 : decode prog_1_method_4_code 4 = .ok (.iload_n 1, 1) := by decide +kernel
theorem d_PP_pixel_5 : decode prog_1_method_4_code 5 = .ok (.iload_n 2, 1) := by decide +kernel
theorem d_PP_pixel_6 : decode prog_1_method_4_code 6 = .ok (.invokevirtual 65, 3) := by decide +kernel
theorem d_PP_pixel_9 : decode prog_1_method_4_code 9 = .ok (.ifCond .eq 15, 3) := by decide +kernel
theorem d_PP_pixel_12 : decode prog_1_method_4_code 12 = .ok (.aload_n 0, 1) := by decide +kernel
theorem d_PP_pixel_13 : decode prog_1_method_4_code 13 = .ok (.getfield 18, 3) := by decide +kernel
theorem d_PP_pixel_16 : decode prog_1_method_4_code 16 = .ok (.iload_n 1, 1) := by decide +kernel
theorem d_PP_pixel_17 : decode prog_1_method_4_code 17 = .ok (.iload_n 2, 1) := by decide +kernel
theorem d_PP_pixel_18 : decode prog_1_method_4_code 18 = .ok (.invokevirtual 86, 3) := by decide +kernel
theorem d_PP_pixel_21 : decode prog_1_method_4_code 21 = .ok (.goto 4, 3) := by decide +kernel
theorem d_PP_pixel_24 : decode prog_1_method_4_code 24 = .ok (.iconst (-1), 1) := by decide +kernel
theorem d_PP_pixel_25 : decode prog_1_method_4_code 25 = .ok (.ireturn, 1) := by decide +kernel
abbrev y_PP_pixel : MethodName := ⟨"PicturePacker", "pixel", "(II)I"⟩
def wp_PP_pixel (n : Nat → Nat) (Pic_width : Int32) (Pic_height : Int32) (Pic_stride : Int32) (pb : Nat → Int32) (x1 : Int32) (x2 : Int32) (post : Int32 → Unit → Prop) : Prop := wp_Pic_has n Pic_width Pic_height x1 x2 (fun r2 _ => ((r2 : Int32) = 0 → (post ((-1)) ())) ∧ (¬ ((r2 : Int32) = 0) → (wp_Pic_colourOf n Pic_stride pb x1 x2 (fun r5 _ => post r5 ()))))
set_option maxHeartbeats 2000000 in
set_option maxRecDepth 20000 in
theorem c_PP_pixel {l : Launch} {dC : Nat → ClassId} {dI : Nat → Nat → Nat} {cI : ClassId} {tb a n : Nat → Nat} {Pic_width : Int32} {Pic_height : Int32} {Pic_stride : Int32} {pb : Nat → Int32} {x1 : Int32} {x2 : Int32} {post : Int32 → Unit → Prop} (h : wp_PP_pixel n Pic_width Pic_height Pic_stride pb x1 x2 post) : CtI classes dC dI cI tb l y_PP_pixel prog_1_method_4_code 3 .int ({ frames := 2, cells := 0, slots := 0, locals := 45 }) [.ref (a 0), .int x1, .int x2] [e_PP a, e_Pic a Pic_width Pic_height Pic_stride, e_ar a n cI 8 pb] (Unit) (fun _ => [e_PP a, e_Pic a Pic_width Pic_height Pic_stride, e_ar a n cI 8 pb]) post := by
  refine startI (by decide) (Nat.le_of_ble_eq_true rfl) ?_
  intro p e s m below meth c ls E hr hlk hnm hl hw
  have hl : lv_has ls 3 [(0, .ref (a 0)), (1, .int x1), (2, .int x2)] := hl
  generalize va_A [e_PP a, e_Pic a Pic_width Pic_height Pic_stride, e_ar a n cI 8 pb] s.heap.size = A at hw ⊢
  obtain ⟨hx, hb, hml, hown, hts⟩ := id E
  unfold wp_PP_pixel at h
  refine lv_aload_n hx hb d_PP_pixel_0 rfl (lv_at hl 0 rfl) ?_
  refine kget (v := .ref (a 1)) (T := F_PP) E hw in_PP rfl 0 0 rfl (by decide) tw211 rfl d_PP_pixel_1 ?_
  refine lv_iload_n hx hb d_PP_pixel_4 rfl (lv_at hl 1 rfl) ?_
  refine lv_iload_n hx hb d_PP_pixel_5 rfl (lv_at hl 2 rfl) ?_
  refine kVi (y := y_Pic_has) (ws' := fun _ => [e_PP a, e_Pic a Pic_width Pic_height Pic_stride, e_ar a n cI 8 pb]) (wr := [e_PP a, e_ar a n cI 8 pb]) (As := [.int x1, .int x2]) (rest := []) E hw (c_Pic_has (l := l) (dC := dC) (dI := dI) (cI := cI) (tb := tb) (a := a) (n := n) (Pic_width := Pic_width) (Pic_height := Pic_height) (Pic_stride := Pic_stride) (x1 := x1) (x2 := x2) h) tw231 tw232 tw233 tw36 tw234 2 (by decide) ⟨Nat.le_of_ble_eq_true rfl, Nat.le_of_ble_eq_true rfl⟩ ⟨Nat.le_of_ble_eq_true rfl, Nat.le_of_ble_eq_true rfl⟩ ⟨rfl, rfl⟩ rfl rfl 1 rfl [1] [0, 2] [0, 2, 1] rfl rfl rfl rfl (by decide) rfl (fun _ => rfl) hl.1 rfl rfl (Nat.le_of_ble_eq_true rfl) d_PP_pixel_6 (fun r2 u1 H locs h hw => ?_)
  refine lv_if_eq (tgt := 24) hx hb d_PP_pixel_9 (by decide) (fun c3 => ?_) (fun c3 => ?_)
  · have h := h.1 c3
    refine lv_iconst (v := (-1)) hx hb d_PP_pixel_24 (by decide) ?_
    exact retI (out := fun u => [e_PP a, e_Pic a Pic_width Pic_height Pic_stride, e_ar a n cI 8 pb]) (u := ()) E hr hlk rfl hw h d_PP_pixel_25
  · have h := h.2 c3
    refine lv_aload_n hx hb d_PP_pixel_12 rfl (lv_at hl 0 rfl) ?_
    refine kget (v := .ref (a 1)) (T := F_PP) E hw in_PP rfl 0 0 rfl (by decide) tw211 rfl d_PP_pixel_13 ?_
    refine lv_iload_n hx hb d_PP_pixel_16 rfl (lv_at hl 1 rfl) ?_
    refine lv_iload_n hx hb d_PP_pixel_17 rfl (lv_at hl 2 rfl) ?_
    refine kVi (y := y_Pic_colourOf) (ws' := fun _ => [e_PP a, e_Pic a Pic_width Pic_height Pic_stride, e_ar a n cI 8 pb]) (wr := [e_PP a]) (As := [.int x1, .int x2]) (rest := []) E hw (c_Pic_colourOf (l := l) (dC := dC) (dI := dI) (cI := cI) (tb := tb) (a := a) (n := n) (Pic_width := Pic_width) (Pic_height := Pic_height) (Pic_stride := Pic_stride) (pb := pb) (x1 := x1) (x2 := x2) h) tw251 tw252 tw253 tw36 tw254 2 (by decide) ⟨Nat.le_of_ble_eq_true rfl, Nat.le_of_ble_eq_true rfl⟩ ⟨Nat.le_of_ble_eq_true rfl, Nat.le_of_ble_eq_true rfl⟩ ⟨rfl, rfl⟩ rfl rfl 1 rfl [1, 2] [0] [0, 1, 2] rfl rfl rfl rfl (by decide) rfl (fun _ => rfl) hl.1 rfl rfl (Nat.le_of_ble_eq_true rfl) d_PP_pixel_18 (fun r5 u4 H locs h hw => ?_)
    refine lv_goto (tgt := 25) hx hb d_PP_pixel_21 (by decide) ?_
    exact retI (out := fun u => [e_PP a, e_Pic a Pic_width Pic_height Pic_stride, e_ar a n cI 8 pb]) (u := ()) E hr hlk rfl hw h d_PP_pixel_25
-- PicturePacker.byteAt(I)I
theorem d_PP_byteAt_0 : decode prog_1_method_6_code 0 = .ok (.iload_n 1, 1) := by decide +kernel
theorem d_PP_byteAt_1 : decode prog_1_method_6_code 1 = .ok (.ifCond .lt 38, 3) := by decide +kernel
theorem d_PP_byteAt_4 : decode prog_1_method_6_code 4 = .ok (.iload_n 1, 1) := by decide +kernel
theorem d_PP_byteAt_5 : decode prog_1_method_6_code 5 = .ok (.aload_n 0, 1) := by decide +kernel
theorem d_PP_byteAt_6 : decode prog_1_method_6_code 6 = .ok (.getfield 43, 3) := by decide +kernel
theorem d_PP_byteAt_9 : decode prog_1_method_6_code 9 = .ok (.getfield 115, 3) := by decide +kernel
theorem d_PP_byteAt_12 : decode prog_1_method_6_code 12 = .ok (.if_icmp .ge 27, 3) := by decide +kernel
theorem d_PP_byteAt_15 : decode prog_1_method_6_code 15 = .ok (.iload_n 1, 1) := by decide +kernel
theorem d_PP_byteAt_16 : decode prog_1_method_6_code 16 = .ok (.aload_n 0, 1) := by decide +kernel
theorem d_PP_byteAt_17 : decode prog_1_method_6_code 17 = .ok (.getfield 43, 3) := by decide +kernel
theorem d_PP_byteAt_20 : decode prog_1_method_6_code 20 = .ok (.getfield 118, 3) := by decide +kernel
theorem d_PP_byteAt_23 : decode prog_1_method_6_code 23 = .ok (.arraylength, 1) := by decide +kernel
theorem d_PP_byteAt_24 : decode prog_1_method_6_code 24 = .ok (.if_icmp .ge 15, 3) := by decide +kernel
theorem d_PP_byteAt_27 : decode prog_1_method_6_code 27 = .ok (.aload_n 0, 1) := by decide +kernel
theorem d_PP_byteAt_28 : decode prog_1_method_6_code 28 = .ok (.getfield 43, 3) := by decide +kernel
theorem d_PP_byteAt_31 : decode prog_1_method_6_code 31 = .ok (.getfield 118, 3) := by decide +kernel
theorem d_PP_byteAt_34 : decode prog_1_method_6_code 34 = .ok (.iload_n 1, 1) := by decide +kernel
theorem d_PP_byteAt_35 : decode prog_1_method_6_code 35 = .ok (.iaload, 1) := by decide +kernel
theorem d_PP_byteAt_36 : decode prog_1_method_6_code 36 = .ok (.goto 4, 3) := by decide +kernel
theorem d_PP_byteAt_39 : decode prog_1_method_6_code 39 = .ok (.iconst (-1), 1) := by decide +kernel
theorem d_PP_byteAt_40 : decode prog_1_method_6_code 40 = .ok (.ireturn, 1) := by decide +kernel
abbrev y_PP_byteAt : MethodName := ⟨"PicturePacker", "byteAt", "(I)I"⟩
def wp_PP_byteAt (n : Nat → Nat) (Out_size : Int32) (ob : Nat → Int32) (x1 : Int32) (post : Int32 → Unit → Prop) : Prop := ((x1 : Int32) < 0 → (post ((-1)) ())) ∧ (¬ ((x1 : Int32) < 0) → (((Out_size : Int32) ≤ x1 → (post ((-1)) ())) ∧ (¬ ((Out_size : Int32) ≤ x1) → (((nI (n 11) : Int32) ≤ x1 → (post ((-1)) ())) ∧ (¬ ((nI (n 11) : Int32) ≤ x1) → (vp_in x1 (n 11) ∧ (post (ob (x1 : Int32).toNatClampNeg) ())))))))
set_option maxHeartbeats 2000000 in
set_option maxRecDepth 20000 in
theorem c_PP_byteAt {l : Launch} {dC : Nat → ClassId} {dI : Nat → Nat → Nat} {cI : ClassId} {tb a n : Nat → Nat} {Out_size : Int32} {Out_gathered : Int32} {Out_gatheredBits : Int32} {ob : Nat → Int32} {x1 : Int32} {post : Int32 → Unit → Prop} (h : wp_PP_byteAt n Out_size ob x1 post) : CtI classes dC dI cI tb l y_PP_byteAt prog_1_method_6_code 2 .int ({ frames := 0, cells := 0, slots := 0, locals := 0 }) [.ref (a 0), .int x1] [e_PP a, e_Out a Out_size Out_gathered Out_gatheredBits, e_ar a n cI 11 ob] (Unit) (fun _ => [e_PP a, e_Out a Out_size Out_gathered Out_gatheredBits, e_ar a n cI 11 ob]) post := by
  refine startI (by decide) (Nat.le_of_ble_eq_true rfl) ?_
  intro p e s m below meth c ls E hr hlk hnm hl hw
  have hl : lv_has ls 2 [(0, .ref (a 0)), (1, .int x1)] := hl
  generalize va_A [e_PP a, e_Out a Out_size Out_gathered Out_gatheredBits, e_ar a n cI 11 ob] s.heap.size = A at hw ⊢
  obtain ⟨hx, hb, hml, hown, hts⟩ := id E
  unfold wp_PP_byteAt at h
  refine lv_iload_n hx hb d_PP_byteAt_0 rfl (lv_at hl 1 rfl) ?_
  refine lv_if_lt (tgt := 39) hx hb d_PP_byteAt_1 (by decide) (fun c1 => ?_) (fun c1 => ?_)
  · have h := h.1 c1
    refine lv_iconst (v := (-1)) hx hb d_PP_byteAt_39 (by decide) ?_
    exact retI (out := fun u => [e_PP a, e_Out a Out_size Out_gathered Out_gatheredBits, e_ar a n cI 11 ob]) (u := ()) E hr hlk rfl hw h d_PP_byteAt_40
  · have h := h.2 c1
    refine lv_iload_n hx hb d_PP_byteAt_4 rfl (lv_at hl 1 rfl) ?_
    refine lv_aload_n hx hb d_PP_byteAt_5 rfl (lv_at hl 0 rfl) ?_
    refine kget (v := .ref (a 3)) (T := F_PP) E hw in_PP rfl 0 2 rfl (by decide) tw213 rfl d_PP_byteAt_6 ?_
    refine kget (v := .int Out_size) (T := F_Out) E hw in_Out rfl 1 1 rfl (by decide) tw124 rfl d_PP_byteAt_9 ?_
    refine lv_icmp_ge (tgt := 39) hx hb d_PP_byteAt_12 (by decide) (fun c2 => ?_) (fun c2 => ?_)
    · have h := h.1 c2
      refine lv_iconst (v := (-1)) hx hb d_PP_byteAt_39 (by decide) ?_
      exact retI (out := fun u => [e_PP a, e_Out a Out_size Out_gathered Out_gatheredBits, e_ar a n cI 11 ob]) (u := ()) E hr hlk rfl hw h d_PP_byteAt_40
    · have h := h.2 c2
      refine lv_iload_n hx hb d_PP_byteAt_15 rfl (lv_at hl 1 rfl) ?_
      refine lv_aload_n hx hb d_PP_byteAt_16 rfl (lv_at hl 0 rfl) ?_
      refine kget (v := .ref (a 3)) (T := F_PP) E hw in_PP rfl 0 2 rfl (by decide) tw213 rfl d_PP_byteAt_17 ?_
      refine kget (v := .ref (a 11)) (T := F_Out) E hw in_Out rfl 1 0 rfl (by decide) tw121 rfl d_PP_byteAt_20 ?_
      refine kalen E hw 2 rfl d_PP_byteAt_23 ?_
      refine lv_icmp_ge (tgt := 39) hx hb d_PP_byteAt_24 (by decide) (fun c3 => ?_) (fun c3 => ?_)
      · have h := h.1 c3
        refine lv_iconst (v := (-1)) hx hb d_PP_byteAt_39 (by decide) ?_
        exact retI (out := fun u => [e_PP a, e_Out a Out_size Out_gathered Out_gatheredBits, e_ar a n cI 11 ob]) (u := ()) E hr hlk rfl hw h d_PP_byteAt_40
      · have h := h.2 c3
        refine lv_aload_n hx hb d_PP_byteAt_27 rfl (lv_at hl 0 rfl) ?_
        refine kget (v := .ref (a 3)) (T := F_PP) E hw in_PP rfl 0 2 rfl (by decide) tw213 rfl d_PP_byteAt_28 ?_
        refine kget (v := .ref (a 11)) (T := F_Out) E hw in_Out rfl 1 0 rfl (by decide) tw121 rfl d_PP_byteAt_31 ?_
        refine lv_iload_n hx hb d_PP_byteAt_34 rfl (lv_at hl 1 rfl) ?_
        obtain ⟨b4, h⟩ := h
        refine kald E hw 2 rfl b4 d_PP_byteAt_35 ?_
        refine lv_goto (tgt := 40) hx hb d_PP_byteAt_36 (by decide) ?_
        exact retI (out := fun u => [e_PP a, e_Out a Out_size Out_gathered Out_gatheredBits, e_ar a n cI 11 ob]) (u := ()) E hr hlk rfl hw h d_PP_byteAt_40
-- PicturePacker.filter(I)I
theorem d_PP_filter_0 : decode prog_1_method_7_code 0 = .ok (.iload_n 1, 1) := by decide +kernel
theorem d_PP_filter_1 : decode prog_1_method_7_code 1 = .ok (.ifCond .lt 27, 3) := by decide +kernel
theorem d_PP_filter_4 : decode prog_1_method_7_code 4 = .ok (.iload_n 1, 1) := by decide +kernel
theorem d_PP_filter_5 : decode prog_1_method_7_code 5 = .ok (.aload_n 0, 1) := by decide +kernel
theorem d_PP_filter_6 : decode prog_1_method_7_code 6 = .ok (.getfield 27, 3) := by decide +kernel
theorem d_PP_filter_9 : decode prog_1_method_7_code 9 = .ok (.getfield 119, 3) := by decide +kernel
theorem d_PP_filter_12 : decode prog_1_method_7_code 12 = .ok (.arraylength, 1) := by decide +kernel
theorem d_PP_filter_13 : decode prog_1_method_7_code 13 = .ok (.if_icmp .ge 15, 3) := by decide +kernel
theorem d_PP_filter_16 : decode prog_1_method_7_code 16 = .ok (.aload_n 0, 1) := by decide +kernel
theorem d_PP_filter_17 : decode prog_1_method_7_code 17 = .ok (.getfield 27, 3) := by decide +kernel
theorem d_PP_filter_20 : decode prog_1_method_7_code 20 = .ok (.getfield 119, 3) := by decide +kernel
theorem d_PP_filter_23 : decode prog_1_method_7_code 23 = .ok (.iload_n 1, 1) := by decide +kernel
theorem d_PP_filter_24 : decode prog_1_method_7_code 24 = .ok (.iaload, 1) := by decide +kernel
theorem d_PP_filter_25 : decode prog_1_method_7_code 25 = .ok (.goto 4, 3) := by decide +kernel
theorem d_PP_filter_28 : decode prog_1_method_7_code 28 = .ok (.iconst (-1), 1) := by decide +kernel
theorem d_PP_filter_29 : decode prog_1_method_7_code 29 = .ok (.ireturn, 1) := by decide +kernel
abbrev y_PP_filter : MethodName := ⟨"PicturePacker", "filter", "(I)I"⟩
def wp_PP_filter (n : Nat → Nat) (fl : Nat → Int32) (x1 : Int32) (post : Int32 → Unit → Prop) : Prop := ((x1 : Int32) < 0 → (post ((-1)) ())) ∧ (¬ ((x1 : Int32) < 0) → (((nI (n 10) : Int32) ≤ x1 → (post ((-1)) ())) ∧ (¬ ((nI (n 10) : Int32) ≤ x1) → (vp_in x1 (n 10) ∧ (post (fl (x1 : Int32).toNatClampNeg) ())))))
set_option maxHeartbeats 2000000 in
set_option maxRecDepth 20000 in
theorem c_PP_filter {l : Launch} {dC : Nat → ClassId} {dI : Nat → Nat → Nat} {cI : ClassId} {tb a n : Nat → Nat} {Rows_rowLength : Int32} {fl : Nat → Int32} {x1 : Int32} {post : Int32 → Unit → Prop} (h : wp_PP_filter n fl x1 post) : CtI classes dC dI cI tb l y_PP_filter prog_1_method_7_code 2 .int ({ frames := 0, cells := 0, slots := 0, locals := 0 }) [.ref (a 0), .int x1] [e_PP a, e_Rows a Rows_rowLength, e_ar a n cI 10 fl] (Unit) (fun _ => [e_PP a, e_Rows a Rows_rowLength, e_ar a n cI 10 fl]) post := by
  refine startI (by decide) (Nat.le_of_ble_eq_true rfl) ?_
  intro p e s m below meth c ls E hr hlk hnm hl hw
  have hl : lv_has ls 2 [(0, .ref (a 0)), (1, .int x1)] := hl
  generalize va_A [e_PP a, e_Rows a Rows_rowLength, e_ar a n cI 10 fl] s.heap.size = A at hw ⊢
  obtain ⟨hx, hb, hml, hown, hts⟩ := id E
  unfold wp_PP_filter at h
  refine lv_iload_n hx hb d_PP_filter_0 rfl (lv_at hl 1 rfl) ?_
  refine lv_if_lt (tgt := 28) hx hb d_PP_filter_1 (by decide) (fun c1 => ?_) (fun c1 => ?_)
  · have h := h.1 c1
    refine lv_iconst (v := (-1)) hx hb d_PP_filter_28 (by decide) ?_
    exact retI (out := fun u => [e_PP a, e_Rows a Rows_rowLength, e_ar a n cI 10 fl]) (u := ()) E hr hlk rfl hw h d_PP_filter_29
  · have h := h.2 c1
    refine lv_iload_n hx hb d_PP_filter_4 rfl (lv_at hl 1 rfl) ?_
    refine lv_aload_n hx hb d_PP_filter_5 rfl (lv_at hl 0 rfl) ?_
    refine kget (v := .ref (a 2)) (T := F_PP) E hw in_PP rfl 0 1 rfl (by decide) tw212 rfl d_PP_filter_6 ?_
    refine kget (v := .ref (a 10)) (T := F_Rows) E hw in_Rows rfl 1 1 rfl (by decide) tw98 rfl d_PP_filter_9 ?_
    refine kalen E hw 2 rfl d_PP_filter_12 ?_
    refine lv_icmp_ge (tgt := 28) hx hb d_PP_filter_13 (by decide) (fun c2 => ?_) (fun c2 => ?_)
    · have h := h.1 c2
      refine lv_iconst (v := (-1)) hx hb d_PP_filter_28 (by decide) ?_
      exact retI (out := fun u => [e_PP a, e_Rows a Rows_rowLength, e_ar a n cI 10 fl]) (u := ()) E hr hlk rfl hw h d_PP_filter_29
    · have h := h.2 c2
      refine lv_aload_n hx hb d_PP_filter_16 rfl (lv_at hl 0 rfl) ?_
      refine kget (v := .ref (a 2)) (T := F_PP) E hw in_PP rfl 0 1 rfl (by decide) tw212 rfl d_PP_filter_17 ?_
      refine kget (v := .ref (a 10)) (T := F_Rows) E hw in_Rows rfl 1 1 rfl (by decide) tw98 rfl d_PP_filter_20 ?_
      refine lv_iload_n hx hb d_PP_filter_23 rfl (lv_at hl 1 rfl) ?_
      obtain ⟨b3, h⟩ := h
      refine kald E hw 2 rfl b3 d_PP_filter_24 ?_
      refine lv_goto (tgt := 29) hx hb d_PP_filter_25 (by decide) ?_
      exact retI (out := fun u => [e_PP a, e_Rows a Rows_rowLength, e_ar a n cI 10 fl]) (u := ()) E hr hlk rfl hw h d_PP_filter_29
-- PicturePacker.count(I)I
theorem d_PP_count_0 : decode prog_1_method_8_code 0 = .ok (.iload_n 1, 1) := by decide +kernel
theorem d_PP_count_1 : decode prog_1_method_8_code 1 = .ok (.tableswitch 87 0 5 #[39, 47, 55, 63, 71, 79], 39) := by decide +kernel
theorem d_PP_count_40 : decode prog_1_method_8_code 40 = .ok (.aload_n 0, 1) := by decide +kernel
theorem d_PP_count_41 : decode prog_1_method_8_code 41 = .ok (.getfield 43, 3) := by decide +kernel
theorem d_PP_count_44 : decode prog_1_method_8_code 44 = .ok (.getfield 115, 3) := by decide +kernel
theorem d_PP_count_47 : decode prog_1_method_8_code 47 = .ok (.ireturn, 1) := by decide +kernel
theorem d_PP_count_48 : decode prog_1_method_8_code 48 = .ok (.aload_n 0, 1) := by decide +kernel
theorem d_PP_count_49 : decode prog_1_method_8_code 49 = .ok (.getfield 61, 3) := by decide +kernel
theorem d_PP_count_52 : decode prog_1_method_8_code 52 = .ok (.getfield 122, 3) := by decide +kernel
theorem d_PP_count_55 : decode prog_1_method_8_code 55 = .ok (.ireturn, 1) := by decide +kernel
theorem d_PP_count_56 : decode prog_1_method_8_code 56 = .ok (.aload_n 0, 1) := by decide +kernel
theorem d_PP_count_57 : decode prog_1_method_8_code 57 = .ok (.getfield 61, 3) := by decide +kernel
theorem d_PP_count_60 : decode prog_1_method_8_code 60 = .ok (.getfield 125, 3) := by decide +kernel
theorem d_PP_count_63 : decode prog_1_method_8_code 63 = .ok (.ireturn, 1) := by decide +kernel
theorem d_PP_count_64 : decode prog_1_method_8_code 64 = .ok (.aload_n 0, 1) := by decide +kernel
theorem d_PP_count_65 : decode prog_1_method_8_code 65 = .ok (.getfield 61, 3) := by decide +kernel
theorem d_PP_count_68 : decode prog_1_method_8_code 68 = .ok (.getfield 128, 3) := by decide +kernel
theorem d_PP_count_71 : decode prog_1_method_8_code 71 = .ok (.ireturn, 1) := by decide +kernel
theorem d_PP_count_72 : decode prog_1_method_8_code 72 = .ok (.aload_n 0, 1) := by decide +kernel
theorem d_PP_count_73 : decode prog_1_method_8_code 73 = .ok (.getfield 18, 3) := by decide +kernel
theorem d_PP_count_76 : decode prog_1_method_8_code 76 = .ok (.getfield 79, 3) := by decide +kernel
theorem d_PP_count_79 : decode prog_1_method_8_code 79 = .ok (.ireturn, 1) := by decide +kernel
theorem d_PP_count_80 : decode prog_1_method_8_code 80 = .ok (.aload_n 0, 1) := by decide +kernel
theorem d_PP_count_81 : decode prog_1_method_8_code 81 = .ok (.getfield 18, 3) := by decide +kernel
theorem d_PP_count_84 : decode prog_1_method_8_code 84 = .ok (.getfield 131, 3) := by decide +kernel
theorem d_PP_count_87 : decode prog_1_method_8_code 87 = .ok (.ireturn, 1) := by decide +kernel
theorem d_PP_count_88 : decode prog_1_method_8_code 88 = .ok (.iconst (-1), 1) := by decide +kernel
theorem d_PP_count_89 : decode prog_1_method_8_code 89 = .ok (.ireturn, 1) := by decide +kernel
abbrev y_PP_count : MethodName := ⟨"PicturePacker", "count", "(I)I"⟩
def wp_PP_count (n : Nat → Nat) (Pic_width : Int32) (Pic_height : Int32) (Out_size : Int32) (Pak_singles : Int32) (Pak_runs : Int32) (Pak_longest : Int32) (x1 : Int32) (post : Int32 → Unit → Prop) : Prop := ((x1 : Int32) = 0 → (post Out_size ())) ∧ ((x1 : Int32) = 1 → (post Pak_singles ())) ∧ ((x1 : Int32) = 2 → (post Pak_runs ())) ∧ ((x1 : Int32) = 3 → (post Pak_longest ())) ∧ ((x1 : Int32) = 4 → (post Pic_width ())) ∧ ((x1 : Int32) = 5 → (post Pic_height ())) ∧ (¬ (x1 : Int32) = 0 → ¬ (x1 : Int32) = 1 → ¬ (x1 : Int32) = 2 → ¬ (x1 : Int32) = 3 → ¬ (x1 : Int32) = 4 → ¬ (x1 : Int32) = 5 → (post ((-1)) ()))
set_option maxHeartbeats 2000000 in
set_option maxRecDepth 20000 in
theorem c_PP_count {l : Launch} {dC : Nat → ClassId} {dI : Nat → Nat → Nat} {cI : ClassId} {tb a n : Nat → Nat} {Pic_width : Int32} {Pic_height : Int32} {Pic_stride : Int32} {Out_size : Int32} {Out_gathered : Int32} {Out_gatheredBits : Int32} {Pak_singles : Int32} {Pak_runs : Int32} {Pak_longest : Int32} {x1 : Int32} {post : Int32 → Unit → Prop} (h : wp_PP_count n Pic_width Pic_height Out_size Pak_singles Pak_runs Pak_longest x1 post) : CtI classes dC dI cI tb l y_PP_count prog_1_method_8_code 2 .int ({ frames := 0, cells := 0, slots := 0, locals := 0 }) [.ref (a 0), .int x1] [e_PP a, e_Pic a Pic_width Pic_height Pic_stride, e_Out a Out_size Out_gathered Out_gatheredBits, e_Pak a Pak_singles Pak_runs Pak_longest] (Unit) (fun _ => [e_PP a, e_Pic a Pic_width Pic_height Pic_stride, e_Out a Out_size Out_gathered Out_gatheredBits, e_Pak a Pak_singles Pak_runs Pak_longest]) post := by
  refine startI (by decide) (Nat.le_of_ble_eq_true rfl) ?_
  intro p e s m below meth c ls E hr hlk hnm hl hw
  have hl : lv_has ls 2 [(0, .ref (a 0)), (1, .int x1)] := hl
  generalize va_A [e_PP a, e_Pic a Pic_width Pic_height Pic_stride, e_Out a Out_size Out_gathered Out_gatheredBits, e_Pak a Pak_singles Pak_runs Pak_longest] s.heap.size = A at hw ⊢
  obtain ⟨hx, hb, hml, hown, hts⟩ := id E
  unfold wp_PP_count at h
  refine lv_iload_n hx hb d_PP_count_0 rfl (lv_at hl 1 rfl) ?_
  by_cases c1 : (x1 : Int32) = 0
  · have h := h.1 c1
    refine lv_tableIn (tgt := 40) (off := 39) hx hb d_PP_count_1 (by rw [c1]; decide) (by rw [c1]; decide) (by rw [c1]; decide) (by decide) ?_
    refine lv_aload_n hx hb d_PP_count_40 rfl (lv_at hl 0 rfl) ?_
    refine kget (v := .ref (a 3)) (T := F_PP) E hw in_PP rfl 0 2 rfl (by decide) tw213 rfl d_PP_count_41 ?_
    refine kget (v := .int Out_size) (T := F_Out) E hw in_Out rfl 2 1 rfl (by decide) tw124 rfl d_PP_count_44 ?_
    exact retI (out := fun u => [e_PP a, e_Pic a Pic_width Pic_height Pic_stride, e_Out a Out_size Out_gathered Out_gatheredBits, e_Pak a Pak_singles Pak_runs Pak_longest]) (u := ()) E hr hlk rfl hw h d_PP_count_47
  · skip
    by_cases c2 : (x1 : Int32) = 1
    · have h := h.2.1 c2
      refine lv_tableIn (tgt := 48) (off := 47) hx hb d_PP_count_1 (by rw [c2]; decide) (by rw [c2]; decide) (by rw [c2]; decide) (by decide) ?_
      refine lv_aload_n hx hb d_PP_count_48 rfl (lv_at hl 0 rfl) ?_
      refine kget (v := .ref (a 5)) (T := F_PP) E hw in_PP rfl 0 4 rfl (by decide) tw215 rfl d_PP_count_49 ?_
      refine kget (v := .int Pak_singles) (T := F_Pak) E hw in_Pak rfl 3 3 rfl (by decide) tw193 rfl d_PP_count_52 ?_
      exact retI (out := fun u => [e_PP a, e_Pic a Pic_width Pic_height Pic_stride, e_Out a Out_size Out_gathered Out_gatheredBits, e_Pak a Pak_singles Pak_runs Pak_longest]) (u := ()) E hr hlk rfl hw h d_PP_count_55
    · skip
      by_cases c3 : (x1 : Int32) = 2
      · have h := h.2.2.1 c3
        refine lv_tableIn (tgt := 56) (off := 55) hx hb d_PP_count_1 (by rw [c3]; decide) (by rw [c3]; decide) (by rw [c3]; decide) (by decide) ?_
        refine lv_aload_n hx hb d_PP_count_56 rfl (lv_at hl 0 rfl) ?_
        refine kget (v := .ref (a 5)) (T := F_PP) E hw in_PP rfl 0 4 rfl (by decide) tw215 rfl d_PP_count_57 ?_
        refine kget (v := .int Pak_runs) (T := F_Pak) E hw in_Pak rfl 3 4 rfl (by decide) tw195 rfl d_PP_count_60 ?_
        exact retI (out := fun u => [e_PP a, e_Pic a Pic_width Pic_height Pic_stride, e_Out a Out_size Out_gathered Out_gatheredBits, e_Pak a Pak_singles Pak_runs Pak_longest]) (u := ()) E hr hlk rfl hw h d_PP_count_63
      · skip
        by_cases c4 : (x1 : Int32) = 3
        · have h := h.2.2.2.1 c4
          refine lv_tableIn (tgt := 64) (off := 63) hx hb d_PP_count_1 (by rw [c4]; decide) (by rw [c4]; decide) (by rw [c4]; decide) (by decide) ?_
          refine lv_aload_n hx hb d_PP_count_64 rfl (lv_at hl 0 rfl) ?_
          refine kget (v := .ref (a 5)) (T := F_PP) E hw in_PP rfl 0 4 rfl (by decide) tw215 rfl d_PP_count_65 ?_
          refine kget (v := .int Pak_longest) (T := F_Pak) E hw in_Pak rfl 3 5 rfl (by decide) tw197 rfl d_PP_count_68 ?_
          exact retI (out := fun u => [e_PP a, e_Pic a Pic_width Pic_height Pic_stride, e_Out a Out_size Out_gathered Out_gatheredBits, e_Pak a Pak_singles Pak_runs Pak_longest]) (u := ()) E hr hlk rfl hw h d_PP_count_71
        · skip
          by_cases c5 : (x1 : Int32) = 4
          · have h := h.2.2.2.2.1 c5
            refine lv_tableIn (tgt := 72) (off := 71) hx hb d_PP_count_1 (by rw [c5]; decide) (by rw [c5]; decide) (by rw [c5]; decide) (by decide) ?_
            refine lv_aload_n hx hb d_PP_count_72 rfl (lv_at hl 0 rfl) ?_
            refine kget (v := .ref (a 1)) (T := F_PP) E hw in_PP rfl 0 0 rfl (by decide) tw211 rfl d_PP_count_73 ?_
            refine kget (v := .int Pic_width) (T := F_Pic) E hw in_Pic rfl 1 0 rfl (by decide) tw70 rfl d_PP_count_76 ?_
            exact retI (out := fun u => [e_PP a, e_Pic a Pic_width Pic_height Pic_stride, e_Out a Out_size Out_gathered Out_gatheredBits, e_Pak a Pak_singles Pak_runs Pak_longest]) (u := ()) E hr hlk rfl hw h d_PP_count_79
          · skip
            by_cases c6 : (x1 : Int32) = 5
            · have h := h.2.2.2.2.2.1 c6
              refine lv_tableIn (tgt := 80) (off := 79) hx hb d_PP_count_1 (by rw [c6]; decide) (by rw [c6]; decide) (by rw [c6]; decide) (by decide) ?_
              refine lv_aload_n hx hb d_PP_count_80 rfl (lv_at hl 0 rfl) ?_
              refine kget (v := .ref (a 1)) (T := F_PP) E hw in_PP rfl 0 0 rfl (by decide) tw211 rfl d_PP_count_81 ?_
              refine kget (v := .int Pic_height) (T := F_Pic) E hw in_Pic rfl 1 1 rfl (by decide) tw73 rfl d_PP_count_84 ?_
              exact retI (out := fun u => [e_PP a, e_Pic a Pic_width Pic_height Pic_stride, e_Out a Out_size Out_gathered Out_gatheredBits, e_Pak a Pak_singles Pak_runs Pak_longest]) (u := ()) E hr hlk rfl hw h d_PP_count_87
            · skip
              have h := h.2.2.2.2.2.2 c1 c2 c3 c4 c5 c6
              have qc1 := lv_neT c1 (a := 0) (by decide)
              have qc2 := lv_neT c2 (a := 1) (by decide)
              have qc3 := lv_neT c3 (a := 2) (by decide)
              have qc4 := lv_neT c4 (a := 3) (by decide)
              have qc5 := lv_neT c5 (a := 4) (by decide)
              have qc6 := lv_neT c6 (a := 5) (by decide)
              refine lv_tableOut (tgt := 88) hx hb d_PP_count_1 (by omega) (by decide) ?_
              refine lv_iconst (v := (-1)) hx hb d_PP_count_88 (by decide) ?_
              exact retI (out := fun u => [e_PP a, e_Pic a Pic_width Pic_height Pic_stride, e_Out a Out_size Out_gathered Out_gatheredBits, e_Pak a Pak_singles Pak_runs Pak_longest]) (u := ()) E hr hlk rfl hw h d_PP_count_89
-- PicturePacker.addHeader()V
theorem d_PP_addHeader_0 : decode prog_1_method_10_code 0 = .ok (.aload_n 0, 1) := by decide +kernel
theorem d_PP_addHeader_1 : decode prog_1_method_10_code 1 = .ok (.getfield 52, 3) := by decide +kernel
theorem d_PP_addHeader_4 : decode prog_1_method_10_code 4 = .ok (.ldc 134, 2) := by decide +kernel
theorem d_PP_addHeader_6 : decode prog_1_method_10_code 6 = .ok (.invokevirtual 109, 3) := by decide +kernel
theorem d_PP_addHeader_9 : decode prog_1_method_10_code 9 = .ok (.aload_n 0, 1) := by decide +kernel
theorem d_PP_addHeader_10 : decode prog_1_method_10_code 10 = .ok (.getfield 43, 3) := by decide +kernel
theorem d_PP_addHeader_13 : decode prog_1_method_10_code 13 = .ok (.aload_n 0, 1) := by decide +kernel
theorem d_PP_addHeader_14 : decode prog_1_method_10_code 14 = .ok (.getfield 18, 3) := by decide +kernel
theorem d_PP_addHeader_17 : decode prog_1_method_10_code 17 = .ok (.getfield 79, 3) := by decide +kernel
theorem d_PP_addHeader_20 : decode prog_1_method_10_code 20 = .ok (.invokevirtual 135, 3) := by decide +kernel
theorem d_PP_addHeader_23 : decode prog_1_method_10_code 23 = .ok (.aload_n 0, 1) := by decide +kernel
theorem d_PP_addHeader_24 : decode prog_1_method_10_code 24 = .ok (.getfield 43, 3) := by decide +kernel
theorem d_PP_addHeader_27 : decode prog_1_method_10_code 27 = .ok (.aload_n 0, 1) := by decide +kernel
theorem d_PP_addHeader_28 : decode prog_1_method_10_code 28 = .ok (.getfield 18, 3) := by decide +kernel
theorem d_PP_addHeader_31 : decode prog_1_method_10_code 31 = .ok (.getfield 131, 3) := by decide +kernel
theorem d_PP_addHeader_34 : decode prog_1_method_10_code 34 = .ok (.invokevirtual 135, 3) := by decide +kernel
theorem d_PP_addHeader_37 : decode prog_1_method_10_code 37 = .ok (.aload_n 0, 1) := by decide +kernel
theorem d_PP_addHeader_38 : decode prog_1_method_10_code 38 = .ok (.getfield 43, 3) := by decide +kernel
theorem d_PP_addHeader_41 : decode prog_1_method_10_code 41 = .ok (.getstatic 138, 3) := by decide +kernel
theorem d_PP_addHeader_44 : decode prog_1_method_10_code 44 = .ok (.invokevirtual 98, 3) := by decide +kernel
theorem d_PP_addHeader_47 : decode prog_1_method_10_code 47 = .ok (.aload_n 0, 1) := by decide +kernel
theorem d_PP_addHeader_48 : decode prog_1_method_10_code 48 = .ok (.getfield 52, 3) := by decide +kernel
theorem d_PP_addHeader_51 : decode prog_1_method_10_code 51 = .ok (.invokevirtual 112, 3) := by decide +kernel
theorem d_PP_addHeader_54 : decode prog_1_method_10_code 54 = .ok (.return_, 1) := by decide +kernel
abbrev y_PP_addHeader : MethodName := ⟨"PicturePacker", "addHeader", "()V"⟩
def wp_PP_addHeader (n : Nat → Nat) (Pic_width : Int32) (Pic_height : Int32) (Out_size : Int32) (Chk_start : Int32) (ob : Nat → Int32) (ct : Nat → Int32) (post : Int32 × Int32 × (Nat → Int32) → Prop) : Prop := wp_Chk_open n Out_size Chk_start ob 1229472850 (fun u1 => wp_Out_addNumber n u1.1 u1.2.2 Pic_width (fun u3 => wp_Out_addNumber n u3.1 u3.2 Pic_height (fun u5 => wp_Out_addAll n 1 u5.1 u5.2 (fun u7 => wp_Chk_close n u7.1 u1.2.1 u7.2 ct (fun u9 => post (u9.1, u1.2.1, u9.2))))))
set_option maxHeartbeats 2000000 in
set_option maxRecDepth 20000 in
theorem c_PP_addHeader {l : Launch} {dC : Nat → ClassId} {dI : Nat → Nat → Nat} {cI : ClassId} {tb a n : Nat → Nat} {Pic_width : Int32} {Pic_height : Int32} {Pic_stride : Int32} {Out_size : Int32} {Out_gathered : Int32} {Out_gatheredBits : Int32} {Chk_start : Int32} {ob : Nat → Int32} {ct : Nat → Int32} {post : Int32 × Int32 × (Nat → Int32) → Prop} (h : wp_PP_addHeader n Pic_width Pic_height Out_size Chk_start ob ct post) : CtV classes dC dI cI tb l y_PP_addHeader prog_1_method_10_code 1 ({ frames := 3, cells := 0, slots := 0, locals := 65 }) [.ref (a 0)] [e_PP a, e_Pic a Pic_width Pic_height Pic_stride, e_Out a Out_size Out_gathered Out_gatheredBits, e_Chk a Chk_start, e_ar a n cI 11 ob, e_ar a n cI 12 ct] (Int32 × Int32 × (Nat → Int32)) (fun u => [e_PP a, e_Pic a Pic_width Pic_height Pic_stride, e_Out a u.1 Out_gathered Out_gatheredBits, e_Chk a u.2.1, e_ar a n cI 11 u.2.2, e_ar a n cI 12 ct]) post := by
  refine startV (by decide) (Nat.le_of_ble_eq_true rfl) ?_
  intro p e s m below meth c ls E hr hlk hnm hl hw
  have hl : lv_has ls 1 [(0, .ref (a 0))] := hl
  generalize va_A [e_PP a, e_Pic a Pic_width Pic_height Pic_stride, e_Out a Out_size Out_gathered Out_gatheredBits, e_Chk a Chk_start, e_ar a n cI 11 ob, e_ar a n cI 12 ct] s.heap.size = A at hw ⊢
  obtain ⟨hx, hb, hml, hown, hts⟩ := id E
  unfold wp_PP_addHeader at h
  refine lv_aload_n hx hb d_PP_addHeader_0 rfl (lv_at hl 0 rfl) ?_
  refine kget (v := .ref (a 4)) (T := F_PP) E hw in_PP rfl 0 3 rfl (by decide) tw214 rfl d_PP_addHeader_1 ?_
  refine lv_ldc (v := 1229472850) hx hb hown (hts _ tw308) d_PP_addHeader_4 ?_
  refine kVv (y := y_Chk_open) (ws' := fun u1 => [e_PP a, e_Pic a Pic_width Pic_height Pic_stride, e_Out a u1.1 Out_gathered Out_gatheredBits, e_Chk a u1.2.1, e_ar a n cI 11 u1.2.2, e_ar a n cI 12 ct]) (wr := [e_PP a, e_Pic a Pic_width Pic_height Pic_stride, e_ar a n cI 12 ct]) (As := [.int 1229472850]) (rest := []) E hw (c_Chk_open (l := l) (dC := dC) (dI := dI) (cI := cI) (tb := tb) (a := a) (n := n) (Out_size := Out_size) (Out_gathered := Out_gathered) (Out_gatheredBits := Out_gatheredBits) (Chk_start := Chk_start) (ob := ob) (x1 := 1229472850) h) tw309 tw310 tw311 tw41 tw312 1 (by decide) ⟨Nat.le_of_ble_eq_true rfl, Nat.le_of_ble_eq_true rfl⟩ ⟨Nat.le_of_ble_eq_true rfl, Nat.le_of_ble_eq_true rfl⟩ ⟨rfl, rfl⟩ rfl rfl 3 rfl [2, 3, 4] [0, 1, 5] [0, 1, 3, 4, 5, 2] rfl rfl rfl rfl (by decide) rfl (fun _ => rfl) hl.1 rfl rfl (Nat.le_of_ble_eq_true rfl) d_PP_addHeader_6 (fun u1 H locs h hw => ?_)
  refine lv_aload_n hx hb d_PP_addHeader_9 rfl (lv_at hl 0 rfl) ?_
  refine kget (v := .ref (a 3)) (T := F_PP) E hw in_PP rfl 0 2 rfl (by decide) tw213 rfl d_PP_addHeader_10 ?_
  refine lv_aload_n hx hb d_PP_addHeader_13 rfl (lv_at hl 0 rfl) ?_
  refine kget (v := .ref (a 1)) (T := F_PP) E hw in_PP rfl 0 0 rfl (by decide) tw211 rfl d_PP_addHeader_14 ?_
  refine kget (v := .int Pic_width) (T := F_Pic) E hw in_Pic rfl 1 0 rfl (by decide) tw70 rfl d_PP_addHeader_17 ?_
  refine kVv (y := y_Out_addNumber) (ws' := fun u3 => [e_PP a, e_Pic a Pic_width Pic_height Pic_stride, e_Out a u3.1 Out_gathered Out_gatheredBits, e_Chk a u1.2.1, e_ar a n cI 11 u3.2, e_ar a n cI 12 ct]) (wr := [e_PP a, e_Pic a Pic_width Pic_height Pic_stride, e_Chk a u1.2.1, e_ar a n cI 12 ct]) (As := [.int Pic_width]) (rest := []) E hw (c_Out_addNumber (l := l) (dC := dC) (dI := dI) (cI := cI) (tb := tb) (a := a) (n := n) (Out_size := u1.1) (Out_gathered := Out_gathered) (Out_gatheredBits := Out_gatheredBits) (ob := u1.2.2) (x1 := Pic_width) h) tw317 tw314 tw315 tw40 tw316 1 (by decide) ⟨Nat.le_of_ble_eq_true rfl, Nat.le_of_ble_eq_true rfl⟩ ⟨Nat.le_of_ble_eq_true rfl, Nat.le_of_ble_eq_true rfl⟩ ⟨rfl, rfl⟩ rfl rfl 2 rfl [2, 4] [0, 1, 3, 5] [0, 1, 4, 2, 5, 3] rfl rfl rfl rfl (by decide) rfl (fun _ => rfl) hl.1 rfl rfl (Nat.le_of_ble_eq_true rfl) d_PP_addHeader_20 (fun u3 H locs h hw => ?_)
  refine lv_aload_n hx hb d_PP_addHeader_23 rfl (lv_at hl 0 rfl) ?_
  refine kget (v := .ref (a 3)) (T := F_PP) E hw in_PP rfl 0 2 rfl (by decide) tw213 rfl d_PP_addHeader_24 ?_
  refine lv_aload_n hx hb d_PP_addHeader_27 rfl (lv_at hl 0 rfl) ?_
  refine kget (v := .ref (a 1)) (T := F_PP) E hw in_PP rfl 0 0 rfl (by decide) tw211 rfl d_PP_addHeader_28 ?_
  refine kget (v := .int Pic_height) (T := F_Pic) E hw in_Pic rfl 1 1 rfl (by decide) tw73 rfl d_PP_addHeader_31 ?_
  refine kVv (y := y_Out_addNumber) (ws' := fun u5 => [e_PP a, e_Pic a Pic_width Pic_height Pic_stride, e_Out a u5.1 Out_gathered Out_gatheredBits, e_Chk a u1.2.1, e_ar a n cI 11 u5.2, e_ar a n cI 12 ct]) (wr := [e_PP a, e_Pic a Pic_width Pic_height Pic_stride, e_Chk a u1.2.1, e_ar a n cI 12 ct]) (As := [.int Pic_height]) (rest := []) E hw (c_Out_addNumber (l := l) (dC := dC) (dI := dI) (cI := cI) (tb := tb) (a := a) (n := n) (Out_size := u3.1) (Out_gathered := Out_gathered) (Out_gatheredBits := Out_gatheredBits) (ob := u3.2) (x1 := Pic_height) h) tw317 tw314 tw315 tw40 tw316 1 (by decide) ⟨Nat.le_of_ble_eq_true rfl, Nat.le_of_ble_eq_true rfl⟩ ⟨Nat.le_of_ble_eq_true rfl, Nat.le_of_ble_eq_true rfl⟩ ⟨rfl, rfl⟩ rfl rfl 2 rfl [2, 4] [0, 1, 3, 5] [0, 1, 4, 2, 5, 3] rfl rfl rfl rfl (by decide) rfl (fun _ => rfl) hl.1 rfl rfl (Nat.le_of_ble_eq_true rfl) d_PP_addHeader_34 (fun u5 H locs h hw => ?_)
  refine lv_aload_n hx hb d_PP_addHeader_37 rfl (lv_at hl 0 rfl) ?_
  refine kget (v := .ref (a 3)) (T := F_PP) E hw in_PP rfl 0 2 rfl (by decide) tw213 rfl d_PP_addHeader_38 ?_
  refine kgs1 E hw tw318 d_PP_addHeader_41 ?_
  refine kVv (y := y_Out_addAll) (ws' := fun u7 => [e_PP a, e_Pic a Pic_width Pic_height Pic_stride, e_Out a u7.1 Out_gathered Out_gatheredBits, e_Chk a u1.2.1, e_ar a n cI 11 u7.2, e_ar a n cI 12 ct]) (wr := [e_PP a, e_Pic a Pic_width Pic_height Pic_stride, e_Chk a u1.2.1, e_ar a n cI 12 ct]) (As := [.ref (tb 1)]) (rest := []) E hw (c_Out_addAll (l := l) (dC := dC) (dI := dI) (cI := cI) (tb := tb) (a := a) (n := n) (Out_size := u5.1) (Out_gathered := Out_gathered) (Out_gatheredBits := Out_gatheredBits) (ob := u5.2)  (K := 1) (hK2 := (by decide)) h) tw296 tw297 tw298 tw40 tw299 1 (by decide) ⟨Nat.le_of_ble_eq_true rfl, Nat.le_of_ble_eq_true rfl⟩ ⟨Nat.le_of_ble_eq_true rfl, Nat.le_of_ble_eq_true rfl⟩ ⟨rfl, rfl⟩ rfl rfl 2 rfl [2, 4] [0, 1, 3, 5] [0, 1, 4, 2, 5, 3] rfl rfl rfl rfl (by decide) rfl (fun _ => rfl) hl.1 rfl rfl (Nat.le_of_ble_eq_true rfl) d_PP_addHeader_44 (fun u7 H locs h hw => ?_)
  refine lv_aload_n hx hb d_PP_addHeader_47 rfl (lv_at hl 0 rfl) ?_
  refine kget (v := .ref (a 4)) (T := F_PP) E hw in_PP rfl 0 3 rfl (by decide) tw214 rfl d_PP_addHeader_48 ?_
  refine kVv (y := y_Chk_close) (ws' := fun u9 => [e_PP a, e_Pic a Pic_width Pic_height Pic_stride, e_Out a u9.1 Out_gathered Out_gatheredBits, e_Chk a u1.2.1, e_ar a n cI 11 u9.2, e_ar a n cI 12 ct]) (wr := [e_PP a, e_Pic a Pic_width Pic_height Pic_stride]) (As := []) (rest := []) E hw (c_Chk_close (l := l) (dC := dC) (dI := dI) (cI := cI) (tb := tb) (a := a) (n := n) (Out_size := u7.1) (Out_gathered := Out_gathered) (Out_gatheredBits := Out_gatheredBits) (Chk_start := u1.2.1) (ob := u7.2) (ct := ct)  h) tw320 tw321 tw322 tw41 tw323 0 (by decide) ⟨Nat.le_of_ble_eq_true rfl, Nat.le_of_ble_eq_true rfl⟩ ⟨Nat.le_of_ble_eq_true rfl, Nat.le_of_ble_eq_true rfl⟩ ⟨rfl, rfl⟩ rfl rfl 3 rfl [2, 3, 4, 5] [0, 1] [0, 1, 2, 3, 4, 5] rfl rfl rfl rfl (by decide) rfl (fun _ => rfl) hl.1 rfl rfl (Nat.le_of_ble_eq_true rfl) d_PP_addHeader_51 (fun u9 H locs h hw => ?_)
  exact retV (out := fun u => [e_PP a, e_Pic a Pic_width Pic_height Pic_stride, e_Out a u.1 Out_gathered Out_gatheredBits, e_Chk a u.2.1, e_ar a n cI 11 u.2.2, e_ar a n cI 12 ct]) (u := (u9.1, u1.2.1, u9.2)) E hr hlk hw h d_PP_addHeader_54
-- PicturePacker.addData()V
theorem d_PP_addData_0 : decode prog_1_method_11_code 0 = .ok (.aload_n 0, 1) := by decide +kernel
theorem d_PP_addData_1 : decode prog_1_method_11_code 1 = .ok (.getfield 52, 3) := by decide +kernel
theorem d_PP_addData_4 : decode prog_1_method_11_code 4 = .ok (.ldc 141, 2) := by decide +kernel
theorem d_PP_addData_6 : decode prog_1_method_11_code 6 = .ok (.invokevirtual 109, 3) := by decide +kernel
theorem d_PP_addData_9 : decode prog_1_method_11_code 9 = .ok (.aload_n 0, 1) := by decide +kernel
theorem d_PP_addData_10 : decode prog_1_method_11_code 10 = .ok (.getfield 43, 3) := by decide +kernel
theorem d_PP_addData_13 : decode prog_1_method_11_code 13 = .ok (.bipush 120, 2) := by decide +kernel
theorem d_PP_addData_15 : decode prog_1_method_11_code 15 = .ok (.invokevirtual 142, 3) := by decide +kernel
theorem d_PP_addData_18 : decode prog_1_method_11_code 18 = .ok (.aload_n 0, 1) := by decide +kernel
theorem d_PP_addData_19 : decode prog_1_method_11_code 19 = .ok (.getfield 43, 3) := by decide +kernel
theorem d_PP_addData_22 : decode prog_1_method_11_code 22 = .ok (.iconst 1, 1) := by decide +kernel
theorem d_PP_addData_23 : decode prog_1_method_11_code 23 = .ok (.invokevirtual 142, 3) := by decide +kernel
theorem d_PP_addData_26 : decode prog_1_method_11_code 26 = .ok (.aload_n 0, 1) := by decide +kernel
theorem d_PP_addData_27 : decode prog_1_method_11_code 27 = .ok (.getfield 61, 3) := by decide +kernel
theorem d_PP_addData_30 : decode prog_1_method_11_code 30 = .ok (.invokevirtual 145, 3) := by decide +kernel
theorem d_PP_addData_33 : decode prog_1_method_11_code 33 = .ok (.aload_n 0, 1) := by decide +kernel
theorem d_PP_addData_34 : decode prog_1_method_11_code 34 = .ok (.getfield 43, 3) := by decide +kernel
theorem d_PP_addData_37 : decode prog_1_method_11_code 37 = .ok (.aload_n 0, 1) := by decide +kernel
theorem d_PP_addData_38 : decode prog_1_method_11_code 38 = .ok (.getfield 27, 3) := by decide +kernel
theorem d_PP_addData_41 : decode prog_1_method_11_code 41 = .ok (.invokevirtual 148, 3) := by decide +kernel
theorem d_PP_addData_44 : decode prog_1_method_11_code 44 = .ok (.invokevirtual 135, 3) := by decide +kernel
theorem d_PP_addData_47 : decode prog_1_method_11_code 47 = .ok (.aload_n 0, 1) := by decide +kernel
theorem d_PP_addData_48 : decode prog_1_method_11_code 48 = .ok (.getfield 52, 3) := by decide +kernel
theorem d_PP_addData_51 : decode prog_1_method_11_code 51 = .ok (.invokevirtual 112, 3) := by decide +kernel
theorem d_PP_addData_54 : decode prog_1_method_11_code 54 = .ok (.return_, 1) := by decide +kernel
abbrev y_PP_addData : MethodName := ⟨"PicturePacker", "addData", "()V"⟩
def wp_PP_addData (n : Nat → Nat) (Out_size : Int32) (Out_gathered : Int32) (Out_gatheredBits : Int32) (Chk_start : Int32) (Pak_singles : Int32) (Pak_runs : Int32) (Pak_longest : Int32) (Fin_chained : Int32) (Fin_length : Int32) (Fin_distance : Int32) (rb : Nat → Int32) (ob : Nat → Int32) (ct : Nat → Int32) (nw : Nat → Int32) (nx : Nat → Int32) (post : Int32 × Int32 × Int32 × Int32 × Int32 × Int32 × Int32 × Int32 × Int32 × Int32 × (Nat → Int32) × (Nat → Int32) × (Nat → Int32) → Prop) : Prop := wp_Chk_open n Out_size Chk_start ob 1229209940 (fun u1 => wp_Out_addByte n u1.1 u1.2.2 120 (fun u3 => wp_Out_addByte n u3.1 u3.2 1 (fun u5 => wp_Pak_pack n u5.1 Out_gathered Out_gatheredBits Pak_singles Pak_runs Pak_longest Fin_chained Fin_length Fin_distance rb u5.2 nw nx (fun u7 => wp_Rows_sum n rb (fun r10 _ => wp_Out_addNumber n u7.1 u7.2.2.2.2.2.2.2.2.2.1 r10 (fun u11 => wp_Chk_close n u11.1 u1.2.1 u11.2 ct (fun u13 => post (u13.1, u7.2.1, u7.2.2.1, u1.2.1, u7.2.2.2.1, u7.2.2.2.2.1, u7.2.2.2.2.2.1, u7.2.2.2.2.2.2.1, u7.2.2.2.2.2.2.2.1, u7.2.2.2.2.2.2.2.2.1, u13.2, u7.2.2.2.2.2.2.2.2.2.2.1, u7.2.2.2.2.2.2.2.2.2.2.2))))))))
set_option maxHeartbeats 2000000 in
set_option maxRecDepth 20000 in
theorem c_PP_addData {l : Launch} {dC : Nat → ClassId} {dI : Nat → Nat → Nat} {cI : ClassId} {tb a n : Nat → Nat} {Rows_rowLength : Int32} {Out_size : Int32} {Out_gathered : Int32} {Out_gatheredBits : Int32} {Chk_start : Int32} {Pak_singles : Int32} {Pak_runs : Int32} {Pak_longest : Int32} {Fin_chained : Int32} {Fin_length : Int32} {Fin_distance : Int32} {rb : Nat → Int32} {ob : Nat → Int32} {ct : Nat → Int32} {nw : Nat → Int32} {nx : Nat → Int32} {post : Int32 × Int32 × Int32 × Int32 × Int32 × Int32 × Int32 × Int32 × Int32 × Int32 × (Nat → Int32) × (Nat → Int32) × (Nat → Int32) → Prop} (h : wp_PP_addData n Out_size Out_gathered Out_gatheredBits Chk_start Pak_singles Pak_runs Pak_longest Fin_chained Fin_length Fin_distance rb ob ct nw nx post) : CtV classes dC dI cI tb l y_PP_addData prog_1_method_11_code 1 ({ frames := 9, cells := 0, slots := 0, locals := 193 }) [.ref (a 0)] [e_PP a, e_Rows a Rows_rowLength, e_Out a Out_size Out_gathered Out_gatheredBits, e_Chk a Chk_start, e_Pak a Pak_singles Pak_runs Pak_longest, e_Fin a Fin_chained Fin_length Fin_distance, e_ar a n cI 9 rb, e_ar a n cI 11 ob, e_ar a n cI 12 ct, e_ar a n cI 13 nw, e_ar a n cI 14 nx] (Int32 × Int32 × Int32 × Int32 × Int32 × Int32 × Int32 × Int32 × Int32 × Int32 × (Nat → Int32) × (Nat → Int32) × (Nat → Int32)) (fun u => [e_PP a, e_Rows a Rows_rowLength, e_Out a u.1 u.2.1 u.2.2.1, e_Chk a u.2.2.2.1, e_Pak a u.2.2.2.2.1 u.2.2.2.2.2.1 u.2.2.2.2.2.2.1, e_Fin a u.2.2.2.2.2.2.2.1 u.2.2.2.2.2.2.2.2.1 u.2.2.2.2.2.2.2.2.2.1, e_ar a n cI 9 rb, e_ar a n cI 11 u.2.2.2.2.2.2.2.2.2.2.1, e_ar a n cI 12 ct, e_ar a n cI 13 u.2.2.2.2.2.2.2.2.2.2.2.1, e_ar a n cI 14 u.2.2.2.2.2.2.2.2.2.2.2.2]) post := by
  refine startV (by decide) (Nat.le_of_ble_eq_true rfl) ?_
  intro p e s m below meth c ls E hr hlk hnm hl hw
  have hl : lv_has ls 1 [(0, .ref (a 0))] := hl
  generalize va_A [e_PP a, e_Rows a Rows_rowLength, e_Out a Out_size Out_gathered Out_gatheredBits, e_Chk a Chk_start, e_Pak a Pak_singles Pak_runs Pak_longest, e_Fin a Fin_chained Fin_length Fin_distance, e_ar a n cI 9 rb, e_ar a n cI 11 ob, e_ar a n cI 12 ct, e_ar a n cI 13 nw, e_ar a n cI 14 nx] s.heap.size = A at hw ⊢
  obtain ⟨hx, hb, hml, hown, hts⟩ := id E
  unfold wp_PP_addData at h
  refine lv_aload_n hx hb d_PP_addData_0 rfl (lv_at hl 0 rfl) ?_
  refine kget (v := .ref (a 4)) (T := F_PP) E hw in_PP rfl 0 3 rfl (by decide) tw214 rfl d_PP_addData_1 ?_
  refine lv_ldc (v := 1229209940) hx hb hown (hts _ tw337) d_PP_addData_4 ?_
  refine kVv (y := y_Chk_open) (ws' := fun u1 => [e_PP a, e_Rows a Rows_rowLength, e_Out a u1.1 Out_gathered Out_gatheredBits, e_Chk a u1.2.1, e_Pak a Pak_singles Pak_runs Pak_longest, e_Fin a Fin_chained Fin_length Fin_distance, e_ar a n cI 9 rb, e_ar a n cI 11 u1.2.2, e_ar a n cI 12 ct, e_ar a n cI 13 nw, e_ar a n cI 14 nx]) (wr := [e_PP a, e_Rows a Rows_rowLength, e_Pak a Pak_singles Pak_runs Pak_longest, e_Fin a Fin_chained Fin_length Fin_distance, e_ar a n cI 9 rb, e_ar a n cI 12 ct, e_ar a n cI 13 nw, e_ar a n cI 14 nx]) (As := [.int 1229209940]) (rest := []) E hw (c_Chk_open (l := l) (dC := dC) (dI := dI) (cI := cI) (tb := tb) (a := a) (n := n) (Out_size := Out_size) (Out_gathered := Out_gathered) (Out_gatheredBits := Out_gatheredBits) (Chk_start := Chk_start) (ob := ob) (x1 := 1229209940) h) tw309 tw310 tw311 tw41 tw312 1 (by decide) ⟨Nat.le_of_ble_eq_true rfl, Nat.le_of_ble_eq_true rfl⟩ ⟨Nat.le_of_ble_eq_true rfl, Nat.le_of_ble_eq_true rfl⟩ ⟨rfl, rfl⟩ rfl rfl 3 rfl [2, 3, 7] [0, 1, 4, 5, 6, 8, 9, 10] [0, 1, 8, 9, 2, 3, 4, 10, 5, 6, 7] rfl rfl rfl rfl (by decide) rfl (fun _ => rfl) hl.1 rfl rfl (Nat.le_of_ble_eq_true rfl) d_PP_addData_6 (fun u1 H locs h hw => ?_)
  refine lv_aload_n hx hb d_PP_addData_9 rfl (lv_at hl 0 rfl) ?_
  refine kget (v := .ref (a 3)) (T := F_PP) E hw in_PP rfl 0 2 rfl (by decide) tw213 rfl d_PP_addData_10 ?_
  refine lv_bipush (v := 120) hx hb d_PP_addData_13 (by decide) ?_
  refine kVv (y := y_Out_addByte) (ws' := fun u3 => [e_PP a, e_Rows a Rows_rowLength, e_Out a u3.1 Out_gathered Out_gatheredBits, e_Chk a u1.2.1, e_Pak a Pak_singles Pak_runs Pak_longest, e_Fin a Fin_chained Fin_length Fin_distance, e_ar a n cI 9 rb, e_ar a n cI 11 u3.2, e_ar a n cI 12 ct, e_ar a n cI 13 nw, e_ar a n cI 14 nx]) (wr := [e_PP a, e_Rows a Rows_rowLength, e_Chk a u1.2.1, e_Pak a Pak_singles Pak_runs Pak_longest, e_Fin a Fin_chained Fin_length Fin_distance, e_ar a n cI 9 rb, e_ar a n cI 12 ct, e_ar a n cI 13 nw, e_ar a n cI 14 nx]) (As := [.int 120]) (rest := []) E hw (c_Out_addByte (l := l) (dC := dC) (dI := dI) (cI := cI) (tb := tb) (a := a) (n := n) (Out_size := u1.1) (Out_gathered := Out_gathered) (Out_gatheredBits := Out_gatheredBits) (ob := u1.2.2) (x1 := 120) h) tw338 tw301 tw302 tw40 tw303 1 (by decide) ⟨Nat.le_of_ble_eq_true rfl, Nat.le_of_ble_eq_true rfl⟩ ⟨Nat.le_of_ble_eq_true rfl, Nat.le_of_ble_eq_true rfl⟩ ⟨rfl, rfl⟩ rfl rfl 2 rfl [2, 7] [0, 1, 3, 4, 5, 6, 8, 9, 10] [0, 1, 9, 2, 3, 4, 5, 10, 6, 7, 8] rfl rfl rfl rfl (by decide) rfl (fun _ => rfl) hl.1 rfl rfl (Nat.le_of_ble_eq_true rfl) d_PP_addData_15 (fun u3 H locs h hw => ?_)
  refine lv_aload_n hx hb d_PP_addData_18 rfl (lv_at hl 0 rfl) ?_
  refine kget (v := .ref (a 3)) (T := F_PP) E hw in_PP rfl 0 2 rfl (by decide) tw213 rfl d_PP_addData_19 ?_
  refine lv_iconst (v := 1) hx hb d_PP_addData_22 (by decide) ?_
  refine kVv (y := y_Out_addByte) (ws' := fun u5 => [e_PP a, e_Rows a Rows_rowLength, e_Out a u5.1 Out_gathered Out_gatheredBits, e_Chk a u1.2.1, e_Pak a Pak_singles Pak_runs Pak_longest, e_Fin a Fin_chained Fin_length Fin_distance, e_ar a n cI 9 rb, e_ar a n cI 11 u5.2, e_ar a n cI 12 ct, e_ar a n cI 13 nw, e_ar a n cI 14 nx]) (wr := [e_PP a, e_Rows a Rows_rowLength, e_Chk a u1.2.1, e_Pak a Pak_singles Pak_runs Pak_longest, e_Fin a Fin_chained Fin_length Fin_distance, e_ar a n cI 9 rb, e_ar a n cI 12 ct, e_ar a n cI 13 nw, e_ar a n cI 14 nx]) (As := [.int 1]) (rest := []) E hw (c_Out_addByte (l := l) (dC := dC) (dI := dI) (cI := cI) (tb := tb) (a := a) (n := n) (Out_size := u3.1) (Out_gathered := Out_gathered) (Out_gatheredBits := Out_gatheredBits) (ob := u3.2) (x1 := 1) h) tw338 tw301 tw302 tw40 tw303 1 (by decide) ⟨Nat.le_of_ble_eq_true rfl, Nat.le_of_ble_eq_true rfl⟩ ⟨Nat.le_of_ble_eq_true rfl, Nat.le_of_ble_eq_true rfl⟩ ⟨rfl, rfl⟩ rfl rfl 2 rfl [2, 7] [0, 1, 3, 4, 5, 6, 8, 9, 10] [0, 1, 9, 2, 3, 4, 5, 10, 6, 7, 8] rfl rfl rfl rfl (by decide) rfl (fun _ => rfl) hl.1 rfl rfl (Nat.le_of_ble_eq_true rfl) d_PP_addData_23 (fun u5 H locs h hw => ?_)
  refine lv_aload_n hx hb d_PP_addData_26 rfl (lv_at hl 0 rfl) ?_
  refine kget (v := .ref (a 5)) (T := F_PP) E hw in_PP rfl 0 4 rfl (by decide) tw215 rfl d_PP_addData_27 ?_
  refine kVv (y := y_Pak_pack) (ws' := fun u7 => [e_PP a, e_Rows a Rows_rowLength, e_Out a u7.1 u7.2.1 u7.2.2.1, e_Chk a u1.2.1, e_Pak a u7.2.2.2.1 u7.2.2.2.2.1 u7.2.2.2.2.2.1, e_Fin a u7.2.2.2.2.2.2.1 u7.2.2.2.2.2.2.2.1 u7.2.2.2.2.2.2.2.2.1, e_ar a n cI 9 rb, e_ar a n cI 11 u7.2.2.2.2.2.2.2.2.2.1, e_ar a n cI 12 ct, e_ar a n cI 13 u7.2.2.2.2.2.2.2.2.2.2.1, e_ar a n cI 14 u7.2.2.2.2.2.2.2.2.2.2.2]) (wr := [e_PP a, e_Rows a Rows_rowLength, e_Chk a u1.2.1, e_ar a n cI 12 ct]) (As := []) (rest := []) E hw (c_Pak_pack (l := l) (dC := dC) (dI := dI) (cI := cI) (tb := tb) (a := a) (n := n) (Out_size := u5.1) (Out_gathered := Out_gathered) (Out_gatheredBits := Out_gatheredBits) (Pak_singles := Pak_singles) (Pak_runs := Pak_runs) (Pak_longest := Pak_longest) (Fin_chained := Fin_chained) (Fin_length := Fin_length) (Fin_distance := Fin_distance) (rb := rb) (ob := u5.2) (nw := nw) (nx := nx)  h) tw339 tw340 tw341 tw42 tw342 0 (by decide) ⟨Nat.le_of_ble_eq_true rfl, Nat.le_of_ble_eq_true rfl⟩ ⟨Nat.le_of_ble_eq_true rfl, Nat.le_of_ble_eq_true rfl⟩ ⟨rfl, rfl⟩ rfl rfl 4 rfl [2, 4, 5, 6, 7, 9, 10] [0, 1, 3, 8] [0, 1, 4, 2, 5, 6, 7, 8, 3, 9, 10] rfl rfl rfl rfl (by decide) rfl (fun _ => rfl) hl.1 rfl rfl (Nat.le_of_ble_eq_true rfl) d_PP_addData_30 (fun u7 H locs h hw => ?_)
  refine lv_aload_n hx hb d_PP_addData_33 rfl (lv_at hl 0 rfl) ?_
  refine kget (v := .ref (a 3)) (T := F_PP) E hw in_PP rfl 0 2 rfl (by decide) tw213 rfl d_PP_addData_34 ?_
  refine lv_aload_n hx hb d_PP_addData_37 rfl (lv_at hl 0 rfl) ?_
  refine kget (v := .ref (a 2)) (T := F_PP) E hw in_PP rfl 0 1 rfl (by decide) tw212 rfl d_PP_addData_38 ?_
  refine kVi (y := y_Rows_sum) (ws' := fun _ => [e_PP a, e_Rows a Rows_rowLength, e_Out a u7.1 u7.2.1 u7.2.2.1, e_Chk a u1.2.1, e_Pak a u7.2.2.2.1 u7.2.2.2.2.1 u7.2.2.2.2.2.1, e_Fin a u7.2.2.2.2.2.2.1 u7.2.2.2.2.2.2.2.1 u7.2.2.2.2.2.2.2.2.1, e_ar a n cI 9 rb, e_ar a n cI 11 u7.2.2.2.2.2.2.2.2.2.1, e_ar a n cI 12 ct, e_ar a n cI 13 u7.2.2.2.2.2.2.2.2.2.2.1, e_ar a n cI 14 u7.2.2.2.2.2.2.2.2.2.2.2]) (wr := [e_PP a, e_Out a u7.1 u7.2.1 u7.2.2.1, e_Chk a u1.2.1, e_Pak a u7.2.2.2.1 u7.2.2.2.2.1 u7.2.2.2.2.2.1, e_Fin a u7.2.2.2.2.2.2.1 u7.2.2.2.2.2.2.2.1 u7.2.2.2.2.2.2.2.2.1, e_ar a n cI 11 u7.2.2.2.2.2.2.2.2.2.1, e_ar a n cI 12 ct, e_ar a n cI 13 u7.2.2.2.2.2.2.2.2.2.2.1, e_ar a n cI 14 u7.2.2.2.2.2.2.2.2.2.2.2]) (As := []) (rest := [.ref (a 3)]) E hw (c_Rows_sum (l := l) (dC := dC) (dI := dI) (cI := cI) (tb := tb) (a := a) (n := n) (Rows_rowLength := Rows_rowLength) (rb := rb)  h) tw407 tw408 tw409 tw38 tw410 0 (by decide) ⟨Nat.le_of_ble_eq_true rfl, Nat.le_of_ble_eq_true rfl⟩ ⟨Nat.le_of_ble_eq_true rfl, Nat.le_of_ble_eq_true rfl⟩ ⟨rfl, rfl⟩ rfl rfl 1 rfl [1, 6] [0, 2, 3, 4, 5, 7, 8, 9, 10] [0, 9, 1, 2, 3, 4, 10, 5, 6, 7, 8] rfl rfl rfl rfl (by decide) rfl (fun _ => rfl) hl.1 rfl rfl (Nat.le_of_ble_eq_true rfl) d_PP_addData_41 (fun r10 u9 H locs h hw => ?_)
  refine kVv (y := y_Out_addNumber) (ws' := fun u11 => [e_PP a, e_Rows a Rows_rowLength, e_Out a u11.1 u7.2.1 u7.2.2.1, e_Chk a u1.2.1, e_Pak a u7.2.2.2.1 u7.2.2.2.2.1 u7.2.2.2.2.2.1, e_Fin a u7.2.2.2.2.2.2.1 u7.2.2.2.2.2.2.2.1 u7.2.2.2.2.2.2.2.2.1, e_ar a n cI 9 rb, e_ar a n cI 11 u11.2, e_ar a n cI 12 ct, e_ar a n cI 13 u7.2.2.2.2.2.2.2.2.2.2.1, e_ar a n cI 14 u7.2.2.2.2.2.2.2.2.2.2.2]) (wr := [e_PP a, e_Rows a Rows_rowLength, e_Chk a u1.2.1, e_Pak a u7.2.2.2.1 u7.2.2.2.2.1 u7.2.2.2.2.2.1, e_Fin a u7.2.2.2.2.2.2.1 u7.2.2.2.2.2.2.2.1 u7.2.2.2.2.2.2.2.2.1, e_ar a n cI 9 rb, e_ar a n cI 12 ct, e_ar a n cI 13 u7.2.2.2.2.2.2.2.2.2.2.1, e_ar a n cI 14 u7.2.2.2.2.2.2.2.2.2.2.2]) (As := [.int r10]) (rest := []) E hw (c_Out_addNumber (l := l) (dC := dC) (dI := dI) (cI := cI) (tb := tb) (a := a) (n := n) (Out_size := u7.1) (Out_gathered := u7.2.1) (Out_gatheredBits := u7.2.2.1) (ob := u7.2.2.2.2.2.2.2.2.2.1) (x1 := r10) h) tw317 tw314 tw315 tw40 tw316 1 (by decide) ⟨Nat.le_of_ble_eq_true rfl, Nat.le_of_ble_eq_true rfl⟩ ⟨Nat.le_of_ble_eq_true rfl, Nat.le_of_ble_eq_true rfl⟩ ⟨rfl, rfl⟩ rfl rfl 2 rfl [2, 7] [0, 1, 3, 4, 5, 6, 8, 9, 10] [0, 1, 9, 2, 3, 4, 5, 10, 6, 7, 8] rfl rfl rfl rfl (by decide) rfl (fun _ => rfl) hl.1 rfl rfl (Nat.le_of_ble_eq_true rfl) d_PP_addData_44 (fun u11 H locs h hw => ?_)
  refine lv_aload_n hx hb d_PP_addData_47 rfl (lv_at hl 0 rfl) ?_
  refine kget (v := .ref (a 4)) (T := F_PP) E hw in_PP rfl 0 3 rfl (by decide) tw214 rfl d_PP_addData_48 ?_
  refine kVv (y := y_Chk_close) (ws' := fun u13 => [e_PP a, e_Rows a Rows_rowLength, e_Out a u13.1 u7.2.1 u7.2.2.1, e_Chk a u1.2.1, e_Pak a u7.2.2.2.1 u7.2.2.2.2.1 u7.2.2.2.2.2.1, e_Fin a u7.2.2.2.2.2.2.1 u7.2.2.2.2.2.2.2.1 u7.2.2.2.2.2.2.2.2.1, e_ar a n cI 9 rb, e_ar a n cI 11 u13.2, e_ar a n cI 12 ct, e_ar a n cI 13 u7.2.2.2.2.2.2.2.2.2.2.1, e_ar a n cI 14 u7.2.2.2.2.2.2.2.2.2.2.2]) (wr := [e_PP a, e_Rows a Rows_rowLength, e_Pak a u7.2.2.2.1 u7.2.2.2.2.1 u7.2.2.2.2.2.1, e_Fin a u7.2.2.2.2.2.2.1 u7.2.2.2.2.2.2.2.1 u7.2.2.2.2.2.2.2.2.1, e_ar a n cI 9 rb, e_ar a n cI 13 u7.2.2.2.2.2.2.2.2.2.2.1, e_ar a n cI 14 u7.2.2.2.2.2.2.2.2.2.2.2]) (As := []) (rest := []) E hw (c_Chk_close (l := l) (dC := dC) (dI := dI) (cI := cI) (tb := tb) (a := a) (n := n) (Out_size := u11.1) (Out_gathered := u7.2.1) (Out_gatheredBits := u7.2.2.1) (Chk_start := u1.2.1) (ob := u11.2) (ct := ct)  h) tw320 tw321 tw322 tw41 tw323 0 (by decide) ⟨Nat.le_of_ble_eq_true rfl, Nat.le_of_ble_eq_true rfl⟩ ⟨Nat.le_of_ble_eq_true rfl, Nat.le_of_ble_eq_true rfl⟩ ⟨rfl, rfl⟩ rfl rfl 3 rfl [2, 3, 7, 8] [0, 1, 4, 5, 6, 9, 10] [0, 1, 7, 8, 2, 3, 4, 9, 10, 5, 6] rfl rfl rfl rfl (by decide) rfl (fun _ => rfl) hl.1 rfl rfl (Nat.le_of_ble_eq_true rfl) d_PP_addData_51 (fun u13 H locs h hw => ?_)
  exact retV (out := fun u => [e_PP a, e_Rows a Rows_rowLength, e_Out a u.1 u.2.1 u.2.2.1, e_Chk a u.2.2.2.1, e_Pak a u.2.2.2.2.1 u.2.2.2.2.2.1 u.2.2.2.2.2.2.1, e_Fin a u.2.2.2.2.2.2.2.1 u.2.2.2.2.2.2.2.2.1 u.2.2.2.2.2.2.2.2.2.1, e_ar a n cI 9 rb, e_ar a n cI 11 u.2.2.2.2.2.2.2.2.2.2.1, e_ar a n cI 12 ct, e_ar a n cI 13 u.2.2.2.2.2.2.2.2.2.2.2.1, e_ar a n cI 14 u.2.2.2.2.2.2.2.2.2.2.2.2]) (u := (u13.1, u7.2.1, u7.2.2.1, u1.2.1, u7.2.2.2.1, u7.2.2.2.2.1, u7.2.2.2.2.2.1, u7.2.2.2.2.2.2.1, u7.2.2.2.2.2.2.2.1, u7.2.2.2.2.2.2.2.2.1, u13.2, u7.2.2.2.2.2.2.2.2.2.2.1, u7.2.2.2.2.2.2.2.2.2.2.2)) E hr hlk hw h d_PP_addData_54
-- PicturePacker.put()I
theorem d_PP_put_0 : decode prog_1_method_5_code 0 = .ok (.aload_n 0, 1) := by decide +kernel
theorem d_PP_put_1 : decode prog_1_method_5_code 1 = .ok (.getfield 27, 3) := by decide +kernel
theorem d_PP_put_4 : decode prog_1_method_5_code 4 = .ok (.invokevirtual 89, 3) := by decide +kernel
theorem d_PP_put_7 : decode prog_1_method_5_code 7 = .ok (.aload_n 0, 1) := by decide +kernel
theorem d_PP_put_8 : decode prog_1_method_5_code 8 = .ok (.getfield 43, 3) := by decide +kernel
theorem d_PP_put_11 : decode prog_1_method_5_code 11 = .ok (.invokevirtual 92, 3) := by decide +kernel
theorem d_PP_put_14 : decode prog_1_method_5_code 14 = .ok (.aload_n 0, 1) := by decide +kernel
theorem d_PP_put_15 : decode prog_1_method_5_code 15 = .ok (.getfield 43, 3) := by decide +kernel
theorem d_PP_put_18 : decode prog_1_method_5_code 18 = .ok (.getstatic 95, 3) := by decide +kernel
theorem d_PP_put_21 : decode prog_1_method_5_code 21 = .ok (.invokevirtual 98, 3) := by decide +kernel
theorem d_PP_put_24 : decode prog_1_method_5_code 24 = .ok (.aload_n 0, 1) := by decide +kernel
theorem d_PP_put_25 : decode prog_1_method_5_code 25 = .ok (.invokevirtual 102, 3) := by decide +kernel
theorem d_PP_put_28 : decode prog_1_method_5_code 28 = .ok (.aload_n 0, 1) := by decide +kernel
theorem d_PP_put_29 : decode prog_1_method_5_code 29 = .ok (.invokevirtual 105, 3) := by decide +kernel
theorem d_PP_put_32 : decode prog_1_method_5_code 32 = .ok (.aload_n 0, 1) := by decide +kernel
theorem d_PP_put_33 : decode prog_1_method_5_code 33 = .ok (.getfield 52, 3) := by decide +kernel
theorem d_PP_put_36 : decode prog_1_method_5_code 36 = .ok (.ldc 108, 2) := by decide +kernel
theorem d_PP_put_38 : decode prog_1_method_5_code 38 = .ok (.invokevirtual 109, 3) := by decide +kernel
theorem d_PP_put_41 : decode prog_1_method_5_code 41 = .ok (.aload_n 0, 1) := by decide +kernel
theorem d_PP_put_42 : decode prog_1_method_5_code 42 = .ok (.getfield 52, 3) := by decide +kernel
theorem d_PP_put_45 : decode prog_1_method_5_code 45 = .ok (.invokevirtual 112, 3) := by decide +kernel
theorem d_PP_put_48 : decode prog_1_method_5_code 48 = .ok (.aload_n 0, 1) := by decide +kernel
theorem d_PP_put_49 : decode prog_1_method_5_code 49 = .ok (.getfield 43, 3) := by decide +kernel
theorem d_PP_put_52 : decode prog_1_method_5_code 52 = .ok (.getfield 115, 3) := by decide +kernel
theorem d_PP_put_55 : decode prog_1_method_5_code 55 = .ok (.ireturn, 1) := by decide +kernel
abbrev y_PP_put : MethodName := ⟨"PicturePacker", "put", "()I"⟩
def wp_PP_put (n : Nat → Nat) (Pic_width : Int32) (Pic_height : Int32) (Pic_stride : Int32) (Rows_rowLength : Int32) (Out_size : Int32) (Out_gathered : Int32) (Out_gatheredBits : Int32) (Chk_start : Int32) (Pak_singles : Int32) (Pak_runs : Int32) (Pak_longest : Int32) (Fin_chained : Int32) (Fin_length : Int32) (Fin_distance : Int32) (pb : Nat → Int32) (rb : Nat → Int32) (fl : Nat → Int32) (ob : Nat → Int32) (ct : Nat → Int32) (nw : Nat → Int32) (nx : Nat → Int32) (post : Int32 → Int32 × Int32 × Int32 × Int32 × Int32 × Int32 × Int32 × Int32 × Int32 × Int32 × (Nat → Int32) × (Nat → Int32) × (Nat → Int32) × (Nat → Int32) × (Nat → Int32) → Prop) : Prop := wp_Rows_make n Pic_stride Rows_rowLength pb rb fl (fun u1 => wp_Out_restart n Out_size Out_gathered Out_gatheredBits (fun u3 => wp_Out_addAll n 0 u3.1 ob (fun u5 => wp_PP_addHeader n Pic_width Pic_height u5.1 Chk_start u5.2 ct (fun u7 => wp_PP_addData n u7.1 u3.2.1 u3.2.2 u7.2.1 Pak_singles Pak_runs Pak_longest Fin_chained Fin_length Fin_distance u1.1 u7.2.2 ct nw nx (fun u9 => wp_Chk_open n u9.1 u9.2.2.2.1 u9.2.2.2.2.2.2.2.2.2.2.1 1229278788 (fun u11 => wp_Chk_close n u11.1 u11.2.1 u11.2.2 ct (fun u13 => post u13.1 (u13.1, u9.2.1, u9.2.2.1, u11.2.1, u9.2.2.2.2.1, u9.2.2.2.2.2.1, u9.2.2.2.2.2.2.1, u9.2.2.2.2.2.2.2.1, u9.2.2.2.2.2.2.2.2.1, u9.2.2.2.2.2.2.2.2.2.1, u1.1, u1.2, u13.2, u9.2.2.2.2.2.2.2.2.2.2.2.1, u9.2.2.2.2.2.2.2.2.2.2.2.2))))))))
set_option maxHeartbeats 2000000 in
set_option maxRecDepth 20000 in
theorem c_PP_put {l : Launch} {dC : Nat → ClassId} {dI : Nat → Nat → Nat} {cI : ClassId} {tb a n : Nat → Nat} {Pic_width : Int32} {Pic_height : Int32} {Pic_stride : Int32} {Rows_rowLength : Int32} {Out_size : Int32} {Out_gathered : Int32} {Out_gatheredBits : Int32} {Chk_start : Int32} {Pak_singles : Int32} {Pak_runs : Int32} {Pak_longest : Int32} {Fin_chained : Int32} {Fin_length : Int32} {Fin_distance : Int32} {pb : Nat → Int32} {rb : Nat → Int32} {fl : Nat → Int32} {ob : Nat → Int32} {ct : Nat → Int32} {nw : Nat → Int32} {nx : Nat → Int32} {post : Int32 → Int32 × Int32 × Int32 × Int32 × Int32 × Int32 × Int32 × Int32 × Int32 × Int32 × (Nat → Int32) × (Nat → Int32) × (Nat → Int32) × (Nat → Int32) × (Nat → Int32) → Prop} (h : wp_PP_put n Pic_width Pic_height Pic_stride Rows_rowLength Out_size Out_gathered Out_gatheredBits Chk_start Pak_singles Pak_runs Pak_longest Fin_chained Fin_length Fin_distance pb rb fl ob ct nw nx post) : CtI classes dC dI cI tb l y_PP_put prog_1_method_5_code 1 .int ({ frames := 10, cells := 0, slots := 0, locals := 213 }) [.ref (a 0)] [e_PP a, e_Pic a Pic_width Pic_height Pic_stride, e_Rows a Rows_rowLength, e_Out a Out_size Out_gathered Out_gatheredBits, e_Chk a Chk_start, e_Pak a Pak_singles Pak_runs Pak_longest, e_Fin a Fin_chained Fin_length Fin_distance, e_ar a n cI 8 pb, e_ar a n cI 9 rb, e_ar a n cI 10 fl, e_ar a n cI 11 ob, e_ar a n cI 12 ct, e_ar a n cI 13 nw, e_ar a n cI 14 nx] (Int32 × Int32 × Int32 × Int32 × Int32 × Int32 × Int32 × Int32 × Int32 × Int32 × (Nat → Int32) × (Nat → Int32) × (Nat → Int32) × (Nat → Int32) × (Nat → Int32)) (fun u => [e_PP a, e_Pic a Pic_width Pic_height Pic_stride, e_Rows a Rows_rowLength, e_Out a u.1 u.2.1 u.2.2.1, e_Chk a u.2.2.2.1, e_Pak a u.2.2.2.2.1 u.2.2.2.2.2.1 u.2.2.2.2.2.2.1, e_Fin a u.2.2.2.2.2.2.2.1 u.2.2.2.2.2.2.2.2.1 u.2.2.2.2.2.2.2.2.2.1, e_ar a n cI 8 pb, e_ar a n cI 9 u.2.2.2.2.2.2.2.2.2.2.1, e_ar a n cI 10 u.2.2.2.2.2.2.2.2.2.2.2.1, e_ar a n cI 11 u.2.2.2.2.2.2.2.2.2.2.2.2.1, e_ar a n cI 12 ct, e_ar a n cI 13 u.2.2.2.2.2.2.2.2.2.2.2.2.2.1, e_ar a n cI 14 u.2.2.2.2.2.2.2.2.2.2.2.2.2.2]) post := by
  refine startI (by decide) (Nat.le_of_ble_eq_true rfl) ?_
  intro p e s m below meth c ls E hr hlk hnm hl hw
  have hl : lv_has ls 1 [(0, .ref (a 0))] := hl
  generalize va_A [e_PP a, e_Pic a Pic_width Pic_height Pic_stride, e_Rows a Rows_rowLength, e_Out a Out_size Out_gathered Out_gatheredBits, e_Chk a Chk_start, e_Pak a Pak_singles Pak_runs Pak_longest, e_Fin a Fin_chained Fin_length Fin_distance, e_ar a n cI 8 pb, e_ar a n cI 9 rb, e_ar a n cI 10 fl, e_ar a n cI 11 ob, e_ar a n cI 12 ct, e_ar a n cI 13 nw, e_ar a n cI 14 nx] s.heap.size = A at hw ⊢
  obtain ⟨hx, hb, hml, hown, hts⟩ := id E
  unfold wp_PP_put at h
  refine lv_aload_n hx hb d_PP_put_0 rfl (lv_at hl 0 rfl) ?_
  refine kget (v := .ref (a 2)) (T := F_PP) E hw in_PP rfl 0 1 rfl (by decide) tw212 rfl d_PP_put_1 ?_
  refine kVv (y := y_Rows_make) (ws' := fun u1 => [e_PP a, e_Pic a Pic_width Pic_height Pic_stride, e_Rows a Rows_rowLength, e_Out a Out_size Out_gathered Out_gatheredBits, e_Chk a Chk_start, e_Pak a Pak_singles Pak_runs Pak_longest, e_Fin a Fin_chained Fin_length Fin_distance, e_ar a n cI 8 pb, e_ar a n cI 9 u1.1, e_ar a n cI 10 u1.2, e_ar a n cI 11 ob, e_ar a n cI 12 ct, e_ar a n cI 13 nw, e_ar a n cI 14 nx]) (wr := [e_PP a, e_Out a Out_size Out_gathered Out_gatheredBits, e_Chk a Chk_start, e_Pak a Pak_singles Pak_runs Pak_longest, e_Fin a Fin_chained Fin_length Fin_distance, e_ar a n cI 11 ob, e_ar a n cI 12 ct, e_ar a n cI 13 nw, e_ar a n cI 14 nx]) (As := []) (rest := []) E hw (c_Rows_make (l := l) (dC := dC) (dI := dI) (cI := cI) (tb := tb) (a := a) (n := n) (Pic_width := Pic_width) (Pic_height := Pic_height) (Pic_stride := Pic_stride) (Rows_rowLength := Rows_rowLength) (pb := pb) (rb := rb) (fl := fl)  h) tw259 tw260 tw261 tw38 tw262 0 (by decide) ⟨Nat.le_of_ble_eq_true rfl, Nat.le_of_ble_eq_true rfl⟩ ⟨Nat.le_of_ble_eq_true rfl, Nat.le_of_ble_eq_true rfl⟩ ⟨rfl, rfl⟩ rfl rfl 2 rfl [1, 2, 7, 8, 9] [0, 3, 4, 5, 6, 10, 11, 12, 13] [0, 9, 10, 1, 2, 3, 4, 11, 12, 13, 5, 6, 7, 8] rfl rfl rfl rfl (by decide) rfl (fun _ => rfl) hl.1 rfl rfl (Nat.le_of_ble_eq_true rfl) d_PP_put_4 (fun u1 H locs h hw => ?_)
  refine lv_aload_n hx hb d_PP_put_7 rfl (lv_at hl 0 rfl) ?_
  refine kget (v := .ref (a 3)) (T := F_PP) E hw in_PP rfl 0 2 rfl (by decide) tw213 rfl d_PP_put_8 ?_
  refine kVv (y := y_Out_restart) (ws' := fun u3 => [e_PP a, e_Pic a Pic_width Pic_height Pic_stride, e_Rows a Rows_rowLength, e_Out a u3.1 u3.2.1 u3.2.2, e_Chk a Chk_start, e_Pak a Pak_singles Pak_runs Pak_longest, e_Fin a Fin_chained Fin_length Fin_distance, e_ar a n cI 8 pb, e_ar a n cI 9 u1.1, e_ar a n cI 10 u1.2, e_ar a n cI 11 ob, e_ar a n cI 12 ct, e_ar a n cI 13 nw, e_ar a n cI 14 nx]) (wr := [e_PP a, e_Pic a Pic_width Pic_height Pic_stride, e_Rows a Rows_rowLength, e_Chk a Chk_start, e_Pak a Pak_singles Pak_runs Pak_longest, e_Fin a Fin_chained Fin_length Fin_distance, e_ar a n cI 8 pb, e_ar a n cI 9 u1.1, e_ar a n cI 10 u1.2, e_ar a n cI 11 ob, e_ar a n cI 12 ct, e_ar a n cI 13 nw, e_ar a n cI 14 nx]) (As := []) (rest := []) E hw (c_Out_restart (l := l) (dC := dC) (dI := dI) (cI := cI) (tb := tb) (a := a) (n := n) (Out_size := Out_size) (Out_gathered := Out_gathered) (Out_gatheredBits := Out_gatheredBits)  h) tw290 tw291 tw292 tw40 tw293 0 (by decide) ⟨Nat.le_of_ble_eq_true rfl, Nat.le_of_ble_eq_true rfl⟩ ⟨Nat.le_of_ble_eq_true rfl, Nat.le_of_ble_eq_true rfl⟩ ⟨rfl, rfl⟩ rfl rfl 3 rfl [3] [0, 1, 2, 4, 5, 6, 7, 8, 9, 10, 11, 12, 13] [0, 1, 2, 13, 3, 4, 5, 6, 7, 8, 9, 10, 11, 12] rfl rfl rfl rfl (by decide) rfl (fun _ => rfl) hl.1 rfl rfl (Nat.le_of_ble_eq_true rfl) d_PP_put_11 (fun u3 H locs h hw => ?_)
  refine lv_aload_n hx hb d_PP_put_14 rfl (lv_at hl 0 rfl) ?_
  refine kget (v := .ref (a 3)) (T := F_PP) E hw in_PP rfl 0 2 rfl (by decide) tw213 rfl d_PP_put_15 ?_
  refine kgs0 E hw tw294 d_PP_put_18 ?_
  refine kVv (y := y_Out_addAll) (ws' := fun u5 => [e_PP a, e_Pic a Pic_width Pic_height Pic_stride, e_Rows a Rows_rowLength, e_Out a u5.1 u3.2.1 u3.2.2, e_Chk a Chk_start, e_Pak a Pak_singles Pak_runs Pak_longest, e_Fin a Fin_chained Fin_length Fin_distance, e_ar a n cI 8 pb, e_ar a n cI 9 u1.1, e_ar a n cI 10 u1.2, e_ar a n cI 11 u5.2, e_ar a n cI 12 ct, e_ar a n cI 13 nw, e_ar a n cI 14 nx]) (wr := [e_PP a, e_Pic a Pic_width Pic_height Pic_stride, e_Rows a Rows_rowLength, e_Chk a Chk_start, e_Pak a Pak_singles Pak_runs Pak_longest, e_Fin a Fin_chained Fin_length Fin_distance, e_ar a n cI 8 pb, e_ar a n cI 9 u1.1, e_ar a n cI 10 u1.2, e_ar a n cI 12 ct, e_ar a n cI 13 nw, e_ar a n cI 14 nx]) (As := [.ref (tb 0)]) (rest := []) E hw (c_Out_addAll (l := l) (dC := dC) (dI := dI) (cI := cI) (tb := tb) (a := a) (n := n) (Out_size := u3.1) (Out_gathered := u3.2.1) (Out_gatheredBits := u3.2.2) (ob := ob)  (K := 0) (hK2 := (by decide)) h) tw296 tw297 tw298 tw40 tw299 1 (by decide) ⟨Nat.le_of_ble_eq_true rfl, Nat.le_of_ble_eq_true rfl⟩ ⟨Nat.le_of_ble_eq_true rfl, Nat.le_of_ble_eq_true rfl⟩ ⟨rfl, rfl⟩ rfl rfl 3 rfl [3, 10] [0, 1, 2, 4, 5, 6, 7, 8, 9, 11, 12, 13] [0, 1, 2, 12, 3, 4, 5, 6, 7, 8, 13, 9, 10, 11] rfl rfl rfl rfl (by decide) rfl (fun _ => rfl) hl.1 rfl rfl (Nat.le_of_ble_eq_true rfl) d_PP_put_21 (fun u5 H locs h hw => ?_)
  refine lv_aload_n hx hb d_PP_put_24 rfl (lv_at hl 0 rfl) ?_
  refine kVv (y := y_PP_addHeader) (ws' := fun u7 => [e_PP a, e_Pic a Pic_width Pic_height Pic_stride, e_Rows a Rows_rowLength, e_Out a u7.1 u3.2.1 u3.2.2, e_Chk a u7.2.1, e_Pak a Pak_singles Pak_runs Pak_longest, e_Fin a Fin_chained Fin_length Fin_distance, e_ar a n cI 8 pb, e_ar a n cI 9 u1.1, e_ar a n cI 10 u1.2, e_ar a n cI 11 u7.2.2, e_ar a n cI 12 ct, e_ar a n cI 13 nw, e_ar a n cI 14 nx]) (wr := [e_Rows a Rows_rowLength, e_Pak a Pak_singles Pak_runs Pak_longest, e_Fin a Fin_chained Fin_length Fin_distance, e_ar a n cI 8 pb, e_ar a n cI 9 u1.1, e_ar a n cI 10 u1.2, e_ar a n cI 13 nw, e_ar a n cI 14 nx]) (As := []) (rest := []) E hw (c_PP_addHeader (l := l) (dC := dC) (dI := dI) (cI := cI) (tb := tb) (a := a) (n := n) (Pic_width := Pic_width) (Pic_height := Pic_height) (Pic_stride := Pic_stride) (Out_size := u5.1) (Out_gathered := u3.2.1) (Out_gatheredBits := u3.2.2) (Chk_start := Chk_start) (ob := u5.2) (ct := ct)  h) tw304 tw306 tw3 tw35 tw307 0 (by decide) ⟨Nat.le_of_ble_eq_true rfl, Nat.le_of_ble_eq_true rfl⟩ ⟨Nat.le_of_ble_eq_true rfl, Nat.le_of_ble_eq_true rfl⟩ ⟨rfl, rfl⟩ rfl rfl 0 rfl [0, 1, 3, 4, 10, 11] [2, 5, 6, 7, 8, 9, 12, 13] [8, 9, 0, 10, 11, 1, 2, 3, 4, 5, 12, 13, 6, 7] rfl rfl rfl rfl (by decide) rfl (fun _ => rfl) hl.1 rfl rfl (Nat.le_of_ble_eq_true rfl) d_PP_put_25 (fun u7 H locs h hw => ?_)
  refine lv_aload_n hx hb d_PP_put_28 rfl (lv_at hl 0 rfl) ?_
  refine kVv (y := y_PP_addData) (ws' := fun u9 => [e_PP a, e_Pic a Pic_width Pic_height Pic_stride, e_Rows a Rows_rowLength, e_Out a u9.1 u9.2.1 u9.2.2.1, e_Chk a u9.2.2.2.1, e_Pak a u9.2.2.2.2.1 u9.2.2.2.2.2.1 u9.2.2.2.2.2.2.1, e_Fin a u9.2.2.2.2.2.2.2.1 u9.2.2.2.2.2.2.2.2.1 u9.2.2.2.2.2.2.2.2.2.1, e_ar a n cI 8 pb, e_ar a n cI 9 u1.1, e_ar a n cI 10 u1.2, e_ar a n cI 11 u9.2.2.2.2.2.2.2.2.2.2.1, e_ar a n cI 12 ct, e_ar a n cI 13 u9.2.2.2.2.2.2.2.2.2.2.2.1, e_ar a n cI 14 u9.2.2.2.2.2.2.2.2.2.2.2.2]) (wr := [e_Pic a Pic_width Pic_height Pic_stride, e_ar a n cI 8 pb, e_ar a n cI 10 u1.2]) (As := []) (rest := []) E hw (c_PP_addData (l := l) (dC := dC) (dI := dI) (cI := cI) (tb := tb) (a := a) (n := n) (Rows_rowLength := Rows_rowLength) (Out_size := u7.1) (Out_gathered := u3.2.1) (Out_gatheredBits := u3.2.2) (Chk_start := u7.2.1) (Pak_singles := Pak_singles) (Pak_runs := Pak_runs) (Pak_longest := Pak_longest) (Fin_chained := Fin_chained) (Fin_length := Fin_length) (Fin_distance := Fin_distance) (rb := u1.1) (ob := u7.2.2) (ct := ct) (nw := nw) (nx := nx)  h) tw333 tw335 tw5 tw35 tw336 0 (by decide) ⟨Nat.le_of_ble_eq_true rfl, Nat.le_of_ble_eq_true rfl⟩ ⟨Nat.le_of_ble_eq_true rfl, Nat.le_of_ble_eq_true rfl⟩ ⟨rfl, rfl⟩ rfl rfl 0 rfl [0, 2, 3, 4, 5, 6, 8, 10, 11, 12, 13] [1, 7, 9] [3, 0, 4, 5, 6, 7, 8, 1, 9, 2, 10, 11, 12, 13] rfl rfl rfl rfl (by decide) rfl (fun _ => rfl) hl.1 rfl rfl (Nat.le_of_ble_eq_true rfl) d_PP_put_29 (fun u9 H locs h hw => ?_)
  refine lv_aload_n hx hb d_PP_put_32 rfl (lv_at hl 0 rfl) ?_
  refine kget (v := .ref (a 4)) (T := F_PP) E hw in_PP rfl 0 3 rfl (by decide) tw214 rfl d_PP_put_33 ?_
  refine lv_ldc (v := 1229278788) hx hb hown (hts _ tw413) d_PP_put_36 ?_
  refine kVv (y := y_Chk_open) (ws' := fun u11 => [e_PP a, e_Pic a Pic_width Pic_height Pic_stride, e_Rows a Rows_rowLength, e_Out a u11.1 u9.2.1 u9.2.2.1, e_Chk a u11.2.1, e_Pak a u9.2.2.2.2.1 u9.2.2.2.2.2.1 u9.2.2.2.2.2.2.1, e_Fin a u9.2.2.2.2.2.2.2.1 u9.2.2.2.2.2.2.2.2.1 u9.2.2.2.2.2.2.2.2.2.1, e_ar a n cI 8 pb, e_ar a n cI 9 u1.1, e_ar a n cI 10 u1.2, e_ar a n cI 11 u11.2.2, e_ar a n cI 12 ct, e_ar a n cI 13 u9.2.2.2.2.2.2.2.2.2.2.2.1, e_ar a n cI 14 u9.2.2.2.2.2.2.2.2.2.2.2.2]) (wr := [e_PP a, e_Pic a Pic_width Pic_height Pic_stride, e_Rows a Rows_rowLength, e_Pak a u9.2.2.2.2.1 u9.2.2.2.2.2.1 u9.2.2.2.2.2.2.1, e_Fin a u9.2.2.2.2.2.2.2.1 u9.2.2.2.2.2.2.2.2.1 u9.2.2.2.2.2.2.2.2.2.1, e_ar a n cI 8 pb, e_ar a n cI 9 u1.1, e_ar a n cI 10 u1.2, e_ar a n cI 12 ct, e_ar a n cI 13 u9.2.2.2.2.2.2.2.2.2.2.2.1, e_ar a n cI 14 u9.2.2.2.2.2.2.2.2.2.2.2.2]) (As := [.int 1229278788]) (rest := []) E hw (c_Chk_open (l := l) (dC := dC) (dI := dI) (cI := cI) (tb := tb) (a := a) (n := n) (Out_size := u9.1) (Out_gathered := u9.2.1) (Out_gatheredBits := u9.2.2.1) (Chk_start := u9.2.2.2.1) (ob := u9.2.2.2.2.2.2.2.2.2.2.1) (x1 := 1229278788) h) tw309 tw310 tw311 tw41 tw312 1 (by decide) ⟨Nat.le_of_ble_eq_true rfl, Nat.le_of_ble_eq_true rfl⟩ ⟨Nat.le_of_ble_eq_true rfl, Nat.le_of_ble_eq_true rfl⟩ ⟨rfl, rfl⟩ rfl rfl 4 rfl [3, 4, 10] [0, 1, 2, 5, 6, 7, 8, 9, 11, 12, 13] [0, 1, 2, 11, 12, 3, 4, 5, 6, 7, 13, 8, 9, 10] rfl rfl rfl rfl (by decide) rfl (fun _ => rfl) hl.1 rfl rfl (Nat.le_of_ble_eq_true rfl) d_PP_put_38 (fun u11 H locs h hw => ?_)
  refine lv_aload_n hx hb d_PP_put_41 rfl (lv_at hl 0 rfl) ?_
  refine kget (v := .ref (a 4)) (T := F_PP) E hw in_PP rfl 0 3 rfl (by decide) tw214 rfl d_PP_put_42 ?_
  refine kVv (y := y_Chk_close) (ws' := fun u13 => [e_PP a, e_Pic a Pic_width Pic_height Pic_stride, e_Rows a Rows_rowLength, e_Out a u13.1 u9.2.1 u9.2.2.1, e_Chk a u11.2.1, e_Pak a u9.2.2.2.2.1 u9.2.2.2.2.2.1 u9.2.2.2.2.2.2.1, e_Fin a u9.2.2.2.2.2.2.2.1 u9.2.2.2.2.2.2.2.2.1 u9.2.2.2.2.2.2.2.2.2.1, e_ar a n cI 8 pb, e_ar a n cI 9 u1.1, e_ar a n cI 10 u1.2, e_ar a n cI 11 u13.2, e_ar a n cI 12 ct, e_ar a n cI 13 u9.2.2.2.2.2.2.2.2.2.2.2.1, e_ar a n cI 14 u9.2.2.2.2.2.2.2.2.2.2.2.2]) (wr := [e_PP a, e_Pic a Pic_width Pic_height Pic_stride, e_Rows a Rows_rowLength, e_Pak a u9.2.2.2.2.1 u9.2.2.2.2.2.1 u9.2.2.2.2.2.2.1, e_Fin a u9.2.2.2.2.2.2.2.1 u9.2.2.2.2.2.2.2.2.1 u9.2.2.2.2.2.2.2.2.2.1, e_ar a n cI 8 pb, e_ar a n cI 9 u1.1, e_ar a n cI 10 u1.2, e_ar a n cI 13 u9.2.2.2.2.2.2.2.2.2.2.2.1, e_ar a n cI 14 u9.2.2.2.2.2.2.2.2.2.2.2.2]) (As := []) (rest := []) E hw (c_Chk_close (l := l) (dC := dC) (dI := dI) (cI := cI) (tb := tb) (a := a) (n := n) (Out_size := u11.1) (Out_gathered := u9.2.1) (Out_gatheredBits := u9.2.2.1) (Chk_start := u11.2.1) (ob := u11.2.2) (ct := ct)  h) tw320 tw321 tw322 tw41 tw323 0 (by decide) ⟨Nat.le_of_ble_eq_true rfl, Nat.le_of_ble_eq_true rfl⟩ ⟨Nat.le_of_ble_eq_true rfl, Nat.le_of_ble_eq_true rfl⟩ ⟨rfl, rfl⟩ rfl rfl 4 rfl [3, 4, 10, 11] [0, 1, 2, 5, 6, 7, 8, 9, 12, 13] [0, 1, 2, 10, 11, 3, 4, 5, 6, 7, 12, 13, 8, 9] rfl rfl rfl rfl (by decide) rfl (fun _ => rfl) hl.1 rfl rfl (Nat.le_of_ble_eq_true rfl) d_PP_put_45 (fun u13 H locs h hw => ?_)
  refine lv_aload_n hx hb d_PP_put_48 rfl (lv_at hl 0 rfl) ?_
  refine kget (v := .ref (a 3)) (T := F_PP) E hw in_PP rfl 0 2 rfl (by decide) tw213 rfl d_PP_put_49 ?_
  refine kget (v := .int u13.1) (T := F_Out) E hw in_Out rfl 3 1 rfl (by decide) tw124 rfl d_PP_put_52 ?_
  exact retI (out := fun u => [e_PP a, e_Pic a Pic_width Pic_height Pic_stride, e_Rows a Rows_rowLength, e_Out a u.1 u.2.1 u.2.2.1, e_Chk a u.2.2.2.1, e_Pak a u.2.2.2.2.1 u.2.2.2.2.2.1 u.2.2.2.2.2.2.1, e_Fin a u.2.2.2.2.2.2.2.1 u.2.2.2.2.2.2.2.2.1 u.2.2.2.2.2.2.2.2.2.1, e_ar a n cI 8 pb, e_ar a n cI 9 u.2.2.2.2.2.2.2.2.2.2.1, e_ar a n cI 10 u.2.2.2.2.2.2.2.2.2.2.2.1, e_ar a n cI 11 u.2.2.2.2.2.2.2.2.2.2.2.2.1, e_ar a n cI 12 ct, e_ar a n cI 13 u.2.2.2.2.2.2.2.2.2.2.2.2.2.1, e_ar a n cI 14 u.2.2.2.2.2.2.2.2.2.2.2.2.2.2]) (u := (u13.1, u9.2.1, u9.2.2.1, u11.2.1, u9.2.2.2.2.1, u9.2.2.2.2.2.1, u9.2.2.2.2.2.2.1, u9.2.2.2.2.2.2.2.1, u9.2.2.2.2.2.2.2.2.1, u9.2.2.2.2.2.2.2.2.2.1, u1.1, u1.2, u13.2, u9.2.2.2.2.2.2.2.2.2.2.2.1, u9.2.2.2.2.2.2.2.2.2.2.2.2)) E hr hlk rfl hw h d_PP_put_55
end
section
-- PicturePackerModel.in(II)Z
theorem d_Mod_in_0 : decode prog_9_method_3_code 0 = .ok (.iload_n 1, 1) := by decide +kernel
theorem d_Mod_in_1 : decode prog_9_method_3_code 1 = .ok (.ifCond .lt 27, 3) := by decide +kernel
theorem d_Mod_in_4 : decode prog_9_method_3_code 4 = .ok (.iload_n 1, 1) := by decide +kernel
theorem d_Mod_in_5 : decode prog_9_method_3_code 5 = .ok (.aload_n 0, 1) := by decide +kernel
theorem d_Mod_in_6 : decode prog_9_method_3_code 6 = .ok (.getfield 19, 3) := by decide +kernel
theorem d_Mod_in_9 : decode prog_9_method_3_code 9 = .ok (.if_icmp .ge 19, 3) := by decide +kernel
theorem d_Mod_in_12 : decode prog_9_method_3_code 12 = .ok (.iload_n 2, 1) := by decide +kernel
theorem d_Mod_in_13 : decode prog_9_method_3_code 13 = .ok (.ifCond .lt 15, 3) := by decide +kernel
theorem d_Mod_in_16 : decode prog_9_method_3_code 16 = .ok (.iload_n 2, 1) := by decide +kernel
theorem d_Mod_in_17 : decode prog_9_method_3_code 17 = .ok (.aload_n 0, 1) := by decide +kernel
theorem d_Mod_in_18 : decode prog_9_method_3_code 18 = .ok (.getfield 23, 3) := by decide +kernel
theorem d_Mod_in_21 : decode prog_9_method_3_code 21 = .ok (.if_icmp .ge 7, 3) := by decide +kernel
theorem d_Mod_in_24 : decode prog_9_method_3_code 24 = .ok (.iconst 1, 1) := by decide +kernel
theorem d_Mod_in_25 : decode prog_9_method_3_code 25 = .ok (.goto 4, 3) := by decide +kernel
theorem d_Mod_in_28 : decode prog_9_method_3_code 28 = .ok (.iconst 0, 1) := by decide +kernel
theorem d_Mod_in_29 : decode prog_9_method_3_code 29 = .ok (.ireturn, 1) := by decide +kernel
abbrev y_Mod_in : MethodName := ⟨"PicturePackerModel", "in", "(II)Z"⟩
def wp_Mod_in (n : Nat → Nat) (Mod_width : Int32) (Mod_height : Int32) (x1 : Int32) (x2 : Int32) (post : Int32 → Unit → Prop) : Prop := ((x1 : Int32) < 0 → (narrow .boolean (.int 0) = .int 0 ∧ post 0 ())) ∧ (¬ ((x1 : Int32) < 0) → (((Mod_width : Int32) ≤ x1 → (narrow .boolean (.int 0) = .int 0 ∧ post 0 ())) ∧ (¬ ((Mod_width : Int32) ≤ x1) → (((x2 : Int32) < 0 → (narrow .boolean (.int 0) = .int 0 ∧ post 0 ())) ∧ (¬ ((x2 : Int32) < 0) → (((Mod_height : Int32) ≤ x2 → (narrow .boolean (.int 0) = .int 0 ∧ post 0 ())) ∧ (¬ ((Mod_height : Int32) ≤ x2) → (narrow .boolean (.int 1) = .int 1 ∧ post 1 ()))))))))
set_option maxHeartbeats 2000000 in
set_option maxRecDepth 20000 in
theorem c_Mod_in {l : Launch} {dC : Nat → ClassId} {dI : Nat → Nat → Nat} {cI : ClassId} {tb a n : Nat → Nat} {Mod_thrown : Int32} {Mod_width : Int32} {Mod_height : Int32} {Mod_many : Int32} {Mod_size : Int32} {Mod_bit : Int32} {Mod_single : Int32} {Mod_runs : Int32} {Mod_longest : Int32} {x1 : Int32} {x2 : Int32} {post : Int32 → Unit → Prop} (h : wp_Mod_in n Mod_width Mod_height x1 x2 post) : CtI classes dC dI cI tb l y_Mod_in prog_9_method_3_code 3 .boolean ({ frames := 0, cells := 0, slots := 0, locals := 0 }) [.ref (a 7), .int x1, .int x2] [e_Mod a Mod_thrown Mod_width Mod_height Mod_many Mod_size Mod_bit Mod_single Mod_runs Mod_longest] (Unit) (fun _ => [e_Mod a Mod_thrown Mod_width Mod_height Mod_many Mod_size Mod_bit Mod_single Mod_runs Mod_longest]) post := by
  refine startI (by decide) (Nat.le_of_ble_eq_true rfl) ?_
  intro p e s m below meth c ls E hr hlk hnm hl hw
  have hl : lv_has ls 3 [(0, .ref (a 7)), (1, .int x1), (2, .int x2)] := hl
  generalize va_A [e_Mod a Mod_thrown Mod_width Mod_height Mod_many Mod_size Mod_bit Mod_single Mod_runs Mod_longest] s.heap.size = A at hw ⊢
  obtain ⟨hx, hb, hml, hown, hts⟩ := id E
  unfold wp_Mod_in at h
  refine lv_iload_n hx hb d_Mod_in_0 rfl (lv_at hl 1 rfl) ?_
  refine lv_if_lt (tgt := 28) hx hb d_Mod_in_1 (by decide) (fun c1 => ?_) (fun c1 => ?_)
  · have h := h.1 c1
    refine lv_iconst (v := 0) hx hb d_Mod_in_28 (by decide) ?_
    exact retI (out := fun u => [e_Mod a Mod_thrown Mod_width Mod_height Mod_many Mod_size Mod_bit Mod_single Mod_runs Mod_longest]) (u := ()) E hr hlk h.1 hw h.2 d_Mod_in_29
  · have h := h.2 c1
    refine lv_iload_n hx hb d_Mod_in_4 rfl (lv_at hl 1 rfl) ?_
    refine lv_aload_n hx hb d_Mod_in_5 rfl (lv_at hl 0 rfl) ?_
    refine kget (v := .int Mod_width) (T := F_Mod) E hw in_Mod rfl 0 1 rfl (by decide) tw436 rfl d_Mod_in_6 ?_
    refine lv_icmp_ge (tgt := 28) hx hb d_Mod_in_9 (by decide) (fun c2 => ?_) (fun c2 => ?_)
    · have h := h.1 c2
      refine lv_iconst (v := 0) hx hb d_Mod_in_28 (by decide) ?_
      exact retI (out := fun u => [e_Mod a Mod_thrown Mod_width Mod_height Mod_many Mod_size Mod_bit Mod_single Mod_runs Mod_longest]) (u := ()) E hr hlk h.1 hw h.2 d_Mod_in_29
    · have h := h.2 c2
      refine lv_iload_n hx hb d_Mod_in_12 rfl (lv_at hl 2 rfl) ?_
      refine lv_if_lt (tgt := 28) hx hb d_Mod_in_13 (by decide) (fun c3 => ?_) (fun c3 => ?_)
      · have h := h.1 c3
        refine lv_iconst (v := 0) hx hb d_Mod_in_28 (by decide) ?_
        exact retI (out := fun u => [e_Mod a Mod_thrown Mod_width Mod_height Mod_many Mod_size Mod_bit Mod_single Mod_runs Mod_longest]) (u := ()) E hr hlk h.1 hw h.2 d_Mod_in_29
      · have h := h.2 c3
        refine lv_iload_n hx hb d_Mod_in_16 rfl (lv_at hl 2 rfl) ?_
        refine lv_aload_n hx hb d_Mod_in_17 rfl (lv_at hl 0 rfl) ?_
        refine kget (v := .int Mod_height) (T := F_Mod) E hw in_Mod rfl 0 2 rfl (by decide) tw437 rfl d_Mod_in_18 ?_
        refine lv_icmp_ge (tgt := 28) hx hb d_Mod_in_21 (by decide) (fun c4 => ?_) (fun c4 => ?_)
        · have h := h.1 c4
          refine lv_iconst (v := 0) hx hb d_Mod_in_28 (by decide) ?_
          exact retI (out := fun u => [e_Mod a Mod_thrown Mod_width Mod_height Mod_many Mod_size Mod_bit Mod_single Mod_runs Mod_longest]) (u := ()) E hr hlk h.1 hw h.2 d_Mod_in_29
        · have h := h.2 c4
          refine lv_iconst (v := 1) hx hb d_Mod_in_24 (by decide) ?_
          refine lv_goto (tgt := 29) hx hb d_Mod_in_25 (by decide) ?_
          exact retI (out := fun u => [e_Mod a Mod_thrown Mod_width Mod_height Mod_many Mod_size Mod_bit Mod_single Mod_runs Mod_longest]) (u := ()) E hr hlk h.1 hw h.2 d_Mod_in_29
-- PicturePackerModel.set(III)Z
theorem d_Mod_set_0 : decode prog_9_method_4_code 0 = .ok (.aload_n 0, 1) := by decide +kernel
theorem d_Mod_set_1 : decode prog_9_method_4_code 1 = .ok (.iconst 0, 1) := by decide +kernel
theorem d_Mod_set_2 : decode prog_9_method_4_code 2 = .ok (.putfield 26, 3) := by decide +kernel
theorem d_Mod_set_5 : decode prog_9_method_4_code 5 = .ok (.aload_n 0, 1) := by decide +kernel
theorem d_Mod_set_6 : decode prog_9_method_4_code 6 = .ok (.iload_n 1, 1) := by decide +kernel
theorem d_Mod_set_7 : decode prog_9_method_4_code 7 = .ok (.iload_n 2, 1) := by decide +kernel
theorem d_Mod_set_8 : decode prog_9_method_4_code 8 = .ok (.invokevirtual 29, 3) := by decide +kernel
theorem d_Mod_set_11 : decode prog_9_method_4_code 11 = .ok (.ifCond .ne 5, 3) := by decide +kernel
theorem d_Mod_set_14 : decode prog_9_method_4_code 14 = .ok (.iconst 0, 1) := by decide +kernel
theorem d_Mod_set_15 : decode prog_9_method_4_code 15 = .ok (.ireturn, 1) := by decide +kernel
theorem d_Mod_set_16 : decode prog_9_method_4_code 16 = .ok (.aload_n 0, 1) := by decide +kernel
theorem d_Mod_set_17 : decode prog_9_method_4_code 17 = .ok (.getfield 7, 3) := by decide +kernel
theorem d_Mod_set_20 : decode prog_9_method_4_code 20 = .ok (.bipush 48, 2) := by decide +kernel
theorem d_Mod_set_22 : decode prog_9_method_4_code 22 = .ok (.iload_n 2, 1) := by decide +kernel
theorem d_Mod_set_23 : decode prog_9_method_4_code 23 = .ok (.imul, 1) := by decide +kernel
theorem d_Mod_set_24 : decode prog_9_method_4_code 24 = .ok (.iload_n 1, 1) := by decide +kernel
theorem d_Mod_set_25 : decode prog_9_method_4_code 25 = .ok (.iadd, 1) := by decide +kernel
theorem d_Mod_set_26 : decode prog_9_method_4_code 26 = .ok (.iload_n 3, 1) := by decide +kernel
theorem d_Mod_set_27 : decode prog_9_method_4_code 27 = .ok (.ldc 33, 2) := by decide +kernel
theorem d_Mod_set_29 : decode prog_9_method_4_code 29 = .ok (.iand, 1) := by decide +kernel
theorem d_Mod_set_30 : decode prog_9_method_4_code 30 = .ok (.iastore, 1) := by decide +kernel
theorem d_Mod_set_31 : decode prog_9_method_4_code 31 = .ok (.iconst 1, 1) := by decide +kernel
theorem d_Mod_set_32 : decode prog_9_method_4_code 32 = .ok (.ireturn, 1) := by decide +kernel
abbrev y_Mod_set : MethodName := ⟨"PicturePackerModel", "set", "(III)Z"⟩
def wp_Mod_set (n : Nat → Nat) (Mod_thrown : Int32) (Mod_width : Int32) (Mod_height : Int32) (mc : Nat → Int32) (x1 : Int32) (x2 : Int32) (x3 : Int32) (post : Int32 → Int32 × (Nat → Int32) → Prop) : Prop := wp_Mod_in n Mod_width Mod_height x1 x2 (fun r2 _ => (¬ (r2 : Int32) = 0 → (∀ z4 : Int32, z4 = (x3 &&& 16777215) → (vp_in ((48 * x2) + x1) (n 15) ∧ (∀ f6 : Nat → Int32, f6 = upd mc ((48 * x2) + x1 : Int32).toNatClampNeg z4 → (narrow .boolean (.int 1) = .int 1 ∧ post 1 (0, f6)))))) ∧ ((r2 : Int32) = 0 → (narrow .boolean (.int 0) = .int 0 ∧ post 0 (0, mc))))
set_option maxHeartbeats 2000000 in
set_option maxRecDepth 20000 in
theorem c_Mod_set {l : Launch} {dC : Nat → ClassId} {dI : Nat → Nat → Nat} {cI : ClassId} {tb a n : Nat → Nat} {Mod_thrown : Int32} {Mod_width : Int32} {Mod_height : Int32} {Mod_many : Int32} {Mod_size : Int32} {Mod_bit : Int32} {Mod_single : Int32} {Mod_runs : Int32} {Mod_longest : Int32} {mc : Nat → Int32} {x1 : Int32} {x2 : Int32} {x3 : Int32} {post : Int32 → Int32 × (Nat → Int32) → Prop} (h : wp_Mod_set n Mod_thrown Mod_width Mod_height mc x1 x2 x3 post) : CtI classes dC dI cI tb l y_Mod_set prog_9_method_4_code 4 .boolean ({ frames := 1, cells := 0, slots := 0, locals := 22 }) [.ref (a 7), .int x1, .int x2, .int x3] [e_Mod a Mod_thrown Mod_width Mod_height Mod_many Mod_size Mod_bit Mod_single Mod_runs Mod_longest, e_ar a n cI 15 mc] (Int32 × (Nat → Int32)) (fun u => [e_Mod a u.1 Mod_width Mod_height Mod_many Mod_size Mod_bit Mod_single Mod_runs Mod_longest, e_ar a n cI 15 u.2]) post := by
  refine startI (by decide) (Nat.le_of_ble_eq_true rfl) ?_
  intro p e s m below meth c ls E hr hlk hnm hl hw
  have hl : lv_has ls 4 [(0, .ref (a 7)), (1, .int x1), (2, .int x2), (3, .int x3)] := hl
  generalize va_A [e_Mod a Mod_thrown Mod_width Mod_height Mod_many Mod_size Mod_bit Mod_single Mod_runs Mod_longest, e_ar a n cI 15 mc] s.heap.size = A at hw ⊢
  obtain ⟨hx, hb, hml, hown, hts⟩ := id E
  unfold wp_Mod_set at h
  refine lv_aload_n hx hb d_Mod_set_0 rfl (lv_at hl 0 rfl) ?_
  refine lv_iconst (v := 0) hx hb d_Mod_set_1 (by decide) ?_
  refine kput (v := .int 0) (ty := .int) (T := F_Mod) (ws' := [e_Mod a 0 Mod_width Mod_height Mod_many Mod_size Mod_bit Mod_single Mod_runs Mod_longest, e_ar a n cI 15 mc]) E hw in_Mod t_Mod t_Mod_ok n_Mod rfl 0 0 rfl (by decide) tw435 rfl rfl rfl rfl (Nat.le_of_ble_eq_true rfl) rfl d_Mod_set_2 (fun H locs hw => ?_)
  refine lv_aload_n hx hb d_Mod_set_5 rfl (lv_at hl 0 rfl) ?_
  refine lv_iload_n hx hb d_Mod_set_6 rfl (lv_at hl 1 rfl) ?_
  refine lv_iload_n hx hb d_Mod_set_7 rfl (lv_at hl 2 rfl) ?_
  refine kVi (y := y_Mod_in) (ws' := fun _ => [e_Mod a 0 Mod_width Mod_height Mod_many Mod_size Mod_bit Mod_single Mod_runs Mod_longest, e_ar a n cI 15 mc]) (wr := [e_ar a n cI 15 mc]) (As := [.int x1, .int x2]) (rest := []) E hw (c_Mod_in (l := l) (dC := dC) (dI := dI) (cI := cI) (tb := tb) (a := a) (n := n) (Mod_thrown := 0) (Mod_width := Mod_width) (Mod_height := Mod_height) (Mod_many := Mod_many) (Mod_size := Mod_size) (Mod_bit := Mod_bit) (Mod_single := Mod_single) (Mod_runs := Mod_runs) (Mod_longest := Mod_longest) (x1 := x1) (x2 := x2) h) tw476 tw478 tw16 tw44 tw479 2 (by decide) ⟨Nat.le_of_ble_eq_true rfl, Nat.le_of_ble_eq_true rfl⟩ ⟨Nat.le_of_ble_eq_true rfl, Nat.le_of_ble_eq_true rfl⟩ ⟨rfl, rfl⟩ rfl rfl 0 rfl [0] [1] [1, 0] rfl rfl rfl rfl (by decide) rfl (fun _ => rfl) hl.1 rfl rfl (Nat.le_of_ble_eq_true rfl) d_Mod_set_8 (fun r2 u1 H locs h hw => ?_)
  refine lv_if_ne (tgt := 16) hx hb d_Mod_set_11 (by decide) (fun c3 => ?_) (fun c3 => ?_)
  · have h := h.1 c3
    refine lv_aload_n hx hb d_Mod_set_16 rfl (lv_at hl 0 rfl) ?_
    refine kget (v := .ref (a 15)) (T := F_Mod) E hw in_Mod rfl 0 3 rfl (by decide) tw438 rfl d_Mod_set_17 ?_
    refine lv_bipush (v := 48) hx hb d_Mod_set_20 (by decide) ?_
    refine lv_iload_n hx hb d_Mod_set_22 rfl (lv_at hl 2 rfl) ?_
    refine lv_imul hx hb d_Mod_set_23 ?_
    refine lv_iload_n hx hb d_Mod_set_24 rfl (lv_at hl 1 rfl) ?_
    refine lv_iadd hx hb d_Mod_set_25 ?_
    refine lv_iload_n hx hb d_Mod_set_26 rfl (lv_at hl 3 rfl) ?_
    refine lv_ldc (v := 16777215) hx hb hown (hts _ tw480) d_Mod_set_27 ?_
    refine lv_iand hx hb d_Mod_set_29 ?_
    refine lv_topi (fun z4 ez4 => ?_)
    have h := h z4 ez4
    obtain ⟨b5, h⟩ := h
    obtain ⟨f6, ef6⟩ : ∃ z : Nat → Int32, z = upd mc ((48 * x2) + x1 : Int32).toNatClampNeg z4 := ⟨_, rfl⟩
    have h := h f6 ef6
    refine kast (ws' := [e_Mod a 0 Mod_width Mod_height Mod_many Mod_size Mod_bit Mod_single Mod_runs Mod_longest, e_ar a n cI 15 f6]) E hw 1 rfl b5 (by rw [ef6]; rfl) d_Mod_set_30 (fun H locs hw => ?_)
    refine lv_iconst (v := 1) hx hb d_Mod_set_31 (by decide) ?_
    exact retI (out := fun u => [e_Mod a u.1 Mod_width Mod_height Mod_many Mod_size Mod_bit Mod_single Mod_runs Mod_longest, e_ar a n cI 15 u.2]) (u := (0, f6)) E hr hlk h.1 hw h.2 d_Mod_set_32
  · have h := h.2 c3
    refine lv_iconst (v := 0) hx hb d_Mod_set_14 (by decide) ?_
    exact retI (out := fun u => [e_Mod a u.1 Mod_width Mod_height Mod_many Mod_size Mod_bit Mod_single Mod_runs Mod_longest, e_ar a n cI 15 u.2]) (u := (0, mc)) E hr hlk h.1 hw h.2 d_Mod_set_15
-- PicturePackerModel.fill(IIII)I
theorem d_Mod_fill_0 : decode prog_9_method_5_code 0 = .ok (.aload_n 0, 1) := by decide +kernel
theorem d_Mod_fill_1 : decode prog_9_method_5_code 1 = .ok (.iconst 0, 1) := by decide +kernel
theorem d_Mod_fill_2 : decode prog_9_method_5_code 2 = .ok (.putfield 26, 3) := by decide +kernel
theorem d_Mod_fill_5 : decode prog_9_method_5_code 5 = .ok (.iconst 0, 1) := by decide +kernel
theorem d_Mod_fill_6 : decode prog_9_method_5_code 6 = .ok (.istore 5, 2) := by decide +kernel
theorem d_Mod_fill_8 : decode prog_9_method_5_code 8 = .ok (.iconst 0, 1) := by decide +kernel
theorem d_Mod_fill_9 : decode prog_9_method_5_code 9 = .ok (.istore 6, 2) := by decide +kernel
theorem d_Mod_fill_11 : decode prog_9_method_5_code 11 = .ok (.iload 6, 2) := by decide +kernel
theorem d_Mod_fill_13 : decode prog_9_method_5_code 13 = .ok (.aload_n 0, 1) := by decide +kernel
theorem d_Mod_fill_14 : decode prog_9_method_5_code 14 = .ok (.getfield 19, 3) := by decide +kernel
theorem d_Mod_fill_17 : decode prog_9_method_5_code 17 = .ok (.if_icmp .ge 51, 3) := by decide +kernel
theorem d_Mod_fill_20 : decode prog_9_method_5_code 20 = .ok (.aload_n 0, 1) := by decide +kernel
theorem d_Mod_fill_21 : decode prog_9_method_5_code 21 = .ok (.iload 6, 2) := by decide +kernel
theorem d_Mod_fill_23 : decode prog_9_method_5_code 23 = .ok (.iload_n 1, 1) := by decide +kernel
theorem d_Mod_fill_24 : decode prog_9_method_5_code 24 = .ok (.invokevirtual 29, 3) := by decide +kernel
theorem d_Mod_fill_27 : decode prog_9_method_5_code 27 = .ok (.ifCond .eq 35, 3) := by decide +kernel
theorem d_Mod_fill_30 : decode prog_9_method_5_code 30 = .ok (.iload 6, 2) := by decide +kernel
theorem d_Mod_fill_32 : decode prog_9_method_5_code 32 = .ok (.iload_n 2, 1) := by decide +kernel
theorem d_Mod_fill_33 : decode prog_9_method_5_code 33 = .ok (.if_icmp .lt 29, 3) := by decide +kernel
theorem d_Mod_fill_36 : decode prog_9_method_5_code 36 = .ok (.iload 6, 2) := by decide +kernel
theorem d_Mod_fill_38 : decode prog_9_method_5_code 38 = .ok (.iload_n 3, 1) := by decide +kernel
theorem d_Mod_fill_39 : decode prog_9_method_5_code 39 = .ok (.if_icmp .gt 23, 3) := by decide +kernel
theorem d_Mod_fill_42 : decode prog_9_method_5_code 42 = .ok (.aload_n 0, 1) := by decide +kernel
theorem d_Mod_fill_43 : decode prog_9_method_5_code 43 = .ok (.getfield 7, 3) := by decide +kernel
theorem d_Mod_fill_46 : decode prog_9_method_5_code 46 = .ok (.bipush 48, 2) := by decide +kernel
theorem d_Mod_fill_48 : decode prog_9_method_5_code 48 = .ok (.iload_n 1, 1) := by decide +kernel
theorem d_Mod_fill_49 : decode prog_9_method_5_code 49 = .ok (.imul, 1) := by decide +kernel
theorem d_Mod_fill_50 : decode prog_9_method_5_code 50 = .ok (.iload 6, 2) := by decide +kernel
theorem d_Mod_fill_52 : decode prog_9_method_5_code 52 = .ok (.iadd, 1) := by decide +kernel
theorem d_Mod_fill_53 : decode prog_9_method_5_code 53 = .ok (.iload 4, 2) := by decide +kernel
theorem d_Mod_fill_55 : decode prog_9_method_5_code 55 = .ok (.ldc 33, 2) := by decide +kernel
theorem d_Mod_fill_57 : decode prog_9_method_5_code 57 = .ok (.iand, 1) := by decide +kernel
theorem d_Mod_fill_58 : decode prog_9_method_5_code 58 = .ok (.iastore, 1) := by decide +kernel
theorem d_Mod_fill_59 : decode prog_9_method_5_code 59 = .ok (.iinc 5 1, 3) := by decide +kernel
theorem d_Mod_fill_62 : decode prog_9_method_5_code 62 = .ok (.iinc 6 1, 3) := by decide +kernel
theorem d_Mod_fill_65 : decode prog_9_method_5_code 65 = .ok (.goto (-54), 3) := by decide +kernel
theorem d_Mod_fill_68 : decode prog_9_method_5_code 68 = .ok (.iload 5, 2) := by decide +kernel
theorem d_Mod_fill_70 : decode prog_9_method_5_code 70 = .ok (.ireturn, 1) := by decide +kernel
abbrev y_Mod_fill : MethodName := ⟨"PicturePackerModel", "fill", "(IIII)I"⟩
def wp_Mod_fill_11 (n : Nat → Nat) (Mod_width : Int32) (Mod_height : Int32) (x1 : Int32) (x2 : Int32) (x3 : Int32) (x4 : Int32) (post : Int32 → Int32 × (Nat → Int32) → Prop) : Nat → Int32 → (Nat → Int32) → Int32 → Int32 → Prop
  | 0 => fun _ _ _ _ => False
  | N + 1 => fun Mod_thrown mc y5 y6 => ((Mod_width : Int32) ≤ y6 → (post y5 (Mod_thrown, mc))) ∧ (¬ ((Mod_width : Int32) ≤ y6) → (wp_Mod_in n Mod_width Mod_height y6 x1 (fun r3 _ => ((r3 : Int32) = 0 → (∀ z5 : Int32, z5 = (y6 + 1) → (wp_Mod_fill_11 n Mod_width Mod_height x1 x2 x3 x4 post N Mod_thrown mc y5 z5))) ∧ (¬ ((r3 : Int32) = 0) → (((y6 : Int32) < x2 → (∀ z7 : Int32, z7 = (y6 + 1) → (wp_Mod_fill_11 n Mod_width Mod_height x1 x2 x3 x4 post N Mod_thrown mc y5 z7))) ∧ (¬ ((y6 : Int32) < x2) → (((x3 : Int32) < y6 → (∀ z9 : Int32, z9 = (y6 + 1) → (wp_Mod_fill_11 n Mod_width Mod_height x1 x2 x3 x4 post N Mod_thrown mc y5 z9))) ∧ (¬ ((x3 : Int32) < y6) → (∀ z10 : Int32, z10 = (x4 &&& 16777215) → (vp_in ((48 * x1) + y6) (n 15) ∧ (∀ f12 : Nat → Int32, f12 = upd mc ((48 * x1) + y6 : Int32).toNatClampNeg z10 → (∀ z13 : Int32, z13 = (y5 + 1) → (∀ z14 : Int32, z14 = (y6 + 1) → (wp_Mod_fill_11 n Mod_width Mod_height x1 x2 x3 x4 post N Mod_thrown f12 z13 z14))))))))))))))
def wp_Mod_fill (n : Nat → Nat) (Mod_thrown : Int32) (Mod_width : Int32) (Mod_height : Int32) (mc : Nat → Int32) (x1 : Int32) (x2 : Int32) (x3 : Int32) (x4 : Int32) (post : Int32 → Int32 × (Nat → Int32) → Prop) : Prop := ∃ N15 : Nat, wp_Mod_fill_11 n Mod_width Mod_height x1 x2 x3 x4 post N15 0 mc 0 0
set_option maxHeartbeats 2000000 in
set_option maxRecDepth 20000 in
theorem s_Mod_fill_11 {l : Launch} {dC : Nat → ClassId} {dI : Nat → Nat → Nat} {cI : ClassId} {tb a n : Nat → Nat} {p : Program} {e : Env} {s : State} {m : MethodId} {args : Array Value} {below : List Frame} {meth : Method} {c : Code} {A : Nat → Prop} (E : CallFix p m c prog_9_method_5_code 7 s args TBL "PicturePackerModel") (hr : meth.sig.returnType = some .int) (hlk : meth.locks = false) {Mod_width : Int32} {Mod_height : Int32} {Mod_many : Int32} {Mod_size : Int32} {Mod_bit : Int32} {Mod_single : Int32} {Mod_runs : Int32} {Mod_longest : Int32} {x1 : Int32} {x2 : Int32} {x3 : Int32} {x4 : Int32} {post : Int32 → Int32 × (Nat → Int32) → Prop} : ∀ (N : Nat) (Mod_thrown : Int32) (mc : Nat → Int32) (y5 : Int32) (y6 : Int32) (H : Heap) (locs : List Loc) (ls : Array Slot), Wl classes dC dI cI tb A s H locs [e_Mod a Mod_thrown Mod_width Mod_height Mod_many Mod_size Mod_bit Mod_single Mod_runs Mod_longest, e_ar a n cI 15 mc] → lv_has ls 7 [(0, .ref (a 7)), (1, .int x1), (2, .int x2), (3, .int x3), (4, .int x4), (5, .int y5), (6, .int y6)] → wp_Mod_fill_11 n Mod_width Mod_height x1 x2 x3 x4 post N Mod_thrown mc y5 y6 → W p l e ({ frames := 1, cells := 0, slots := 0, locals := 22 }) s m args below meth c H locs 0 0 (MQ below (va_Qi post (fun u => End0 classes dC dI cI A [e_Mod a u.1 Mod_width Mod_height Mod_many Mod_size Mod_bit Mod_single Mod_runs Mod_longest, e_ar a n cI 15 u.2]) A) args s 0 0 A) (F0 m 11 ls []) := by
  obtain ⟨hx, hb, hml, hown, hts⟩ := id E
  intro N
  induction N with
  | zero =>
    intro _ _ _ _ H locs ls hw hl h
    exact absurd h id
  | succ N ih =>
    intro Mod_thrown mc y5 y6 H locs ls hw hl h
    unfold wp_Mod_fill_11 at h
    refine lv_iload hx hb d_Mod_fill_11 (lv_at hl 6 rfl) ?_
    refine lv_aload_n hx hb d_Mod_fill_13 rfl (lv_at hl 0 rfl) ?_
    refine kget (v := .int Mod_width) (T := F_Mod) E hw in_Mod rfl 0 1 rfl (by decide) tw436 rfl d_Mod_fill_14 ?_
    refine lv_icmp_ge (tgt := 68) hx hb d_Mod_fill_17 (by decide) (fun c1 => ?_) (fun c1 => ?_)
    · have h := h.1 c1
      refine lv_iload hx hb d_Mod_fill_68 (lv_at hl 5 rfl) ?_
      exact retI (out := fun u => [e_Mod a u.1 Mod_width Mod_height Mod_many Mod_size Mod_bit Mod_single Mod_runs Mod_longest, e_ar a n cI 15 u.2]) (u := (Mod_thrown, mc)) E hr hlk rfl hw h d_Mod_fill_70
    · have h := h.2 c1
      refine lv_aload_n hx hb d_Mod_fill_20 rfl (lv_at hl 0 rfl) ?_
      refine lv_iload hx hb d_Mod_fill_21 (lv_at hl 6 rfl) ?_
      refine lv_iload_n hx hb d_Mod_fill_23 rfl (lv_at hl 1 rfl) ?_
      refine kVi (y := y_Mod_in) (ws' := fun _ => [e_Mod a Mod_thrown Mod_width Mod_height Mod_many Mod_size Mod_bit Mod_single Mod_runs Mod_longest, e_ar a n cI 15 mc]) (wr := [e_ar a n cI 15 mc]) (As := [.int y6, .int x1]) (rest := []) E hw (c_Mod_in (l := l) (dC := dC) (dI := dI) (cI := cI) (tb := tb) (a := a) (n := n) (Mod_thrown := Mod_thrown) (Mod_width := Mod_width) (Mod_height := Mod_height) (Mod_many := Mod_many) (Mod_size := Mod_size) (Mod_bit := Mod_bit) (Mod_single := Mod_single) (Mod_runs := Mod_runs) (Mod_longest := Mod_longest) (x1 := y6) (x2 := x1) h) tw476 tw478 tw16 tw44 tw479 2 (by decide) ⟨Nat.le_of_ble_eq_true rfl, Nat.le_of_ble_eq_true rfl⟩ ⟨Nat.le_of_ble_eq_true rfl, Nat.le_of_ble_eq_true rfl⟩ ⟨rfl, rfl⟩ rfl rfl 0 rfl [0] [1] [1, 0] rfl rfl rfl rfl (by decide) rfl (fun _ => rfl) hl.1 rfl rfl (Nat.le_of_ble_eq_true rfl) d_Mod_fill_24 (fun r3 u2 H locs h hw => ?_)
      refine lv_if_eq (tgt := 62) hx hb d_Mod_fill_27 (by decide) (fun c4 => ?_) (fun c4 => ?_)
      · have h := h.1 c4
        obtain ⟨z5, ez5⟩ : ∃ z : Int32, z = y6 + 1 := ⟨_, rfl⟩
        have h := h z5 ez5
        refine lv_iinc (v := z5) (lv' := [(6, .int z5), (0, .ref (a 7)), (1, .int x1), (2, .int x2), (3, .int x3), (4, .int x4), (5, .int y5)]) hx hb d_Mod_fill_62 hl (k := 6) rfl (by rw [ez5]; exact congrArg (y6 + ·) (by decide)) (by decide) rfl (fun ls hl => ?_)
        refine lv_goto (tgt := 11) hx hb d_Mod_fill_65 (by decide) ?_
        exact ih Mod_thrown mc y5 z5 _ _ ls hw (lv_sub hl [1, 2, 3, 4, 5, 6, 0] rfl) h
      · have h := h.2 c4
        refine lv_iload hx hb d_Mod_fill_30 (lv_at hl 6 rfl) ?_
        refine lv_iload_n hx hb d_Mod_fill_32 rfl (lv_at hl 2 rfl) ?_
        refine lv_icmp_lt (tgt := 62) hx hb d_Mod_fill_33 (by decide) (fun c6 => ?_) (fun c6 => ?_)
        · have h := h.1 c6
          obtain ⟨z7, ez7⟩ : ∃ z : Int32, z = y6 + 1 := ⟨_, rfl⟩
          have h := h z7 ez7
          refine lv_iinc (v := z7) (lv' := [(6, .int z7), (0, .ref (a 7)), (1, .int x1), (2, .int x2), (3, .int x3), (4, .int x4), (5, .int y5)]) hx hb d_Mod_fill_62 hl (k := 6) rfl (by rw [ez7]; exact congrArg (y6 + ·) (by decide)) (by decide) rfl (fun ls hl => ?_)
          refine lv_goto (tgt := 11) hx hb d_Mod_fill_65 (by decide) ?_
          exact ih Mod_thrown mc y5 z7 _ _ ls hw (lv_sub hl [1, 2, 3, 4, 5, 6, 0] rfl) h
        · have h := h.2 c6
          refine lv_iload hx hb d_Mod_fill_36 (lv_at hl 6 rfl) ?_
          refine lv_iload_n hx hb d_Mod_fill_38 rfl (lv_at hl 3 rfl) ?_
          refine lv_icmp_gt (tgt := 62) hx hb d_Mod_fill_39 (by decide) (fun c8 => ?_) (fun c8 => ?_)
          · have h := h.1 c8
            obtain ⟨z9, ez9⟩ : ∃ z : Int32, z = y6 + 1 := ⟨_, rfl⟩
            have h := h z9 ez9
            refine lv_iinc (v := z9) (lv' := [(6, .int z9), (0, .ref (a 7)), (1, .int x1), (2, .int x2), (3, .int x3), (4, .int x4), (5, .int y5)]) hx hb d_Mod_fill_62 hl (k := 6) rfl (by rw [ez9]; exact congrArg (y6 + ·) (by decide)) (by decide) rfl (fun ls hl => ?_)
            refine lv_goto (tgt := 11) hx hb d_Mod_fill_65 (by decide) ?_
            exact ih Mod_thrown mc y5 z9 _ _ ls hw (lv_sub hl [1, 2, 3, 4, 5, 6, 0] rfl) h
          · have h := h.2 c8
            refine lv_aload_n hx hb d_Mod_fill_42 rfl (lv_at hl 0 rfl) ?_
            refine kget (v := .ref (a 15)) (T := F_Mod) E hw in_Mod rfl 0 3 rfl (by decide) tw438 rfl d_Mod_fill_43 ?_
            refine lv_bipush (v := 48) hx hb d_Mod_fill_46 (by decide) ?_
            refine lv_iload_n hx hb d_Mod_fill_48 rfl (lv_at hl 1 rfl) ?_
            refine lv_imul hx hb d_Mod_fill_49 ?_
            refine lv_iload hx hb d_Mod_fill_50 (lv_at hl 6 rfl) ?_
            refine lv_iadd hx hb d_Mod_fill_52 ?_
            refine lv_iload hx hb d_Mod_fill_53 (lv_at hl 4 rfl) ?_
            refine lv_ldc (v := 16777215) hx hb hown (hts _ tw480) d_Mod_fill_55 ?_
            refine lv_iand hx hb d_Mod_fill_57 ?_
            refine lv_topi (fun z10 ez10 => ?_)
            have h := h z10 ez10
            obtain ⟨b11, h⟩ := h
            obtain ⟨f12, ef12⟩ : ∃ z : Nat → Int32, z = upd mc ((48 * x1) + y6 : Int32).toNatClampNeg z10 := ⟨_, rfl⟩
            have h := h f12 ef12
            refine kast (ws' := [e_Mod a Mod_thrown Mod_width Mod_height Mod_many Mod_size Mod_bit Mod_single Mod_runs Mod_longest, e_ar a n cI 15 f12]) E hw 1 rfl b11 (by rw [ef12]; rfl) d_Mod_fill_58 (fun H locs hw => ?_)
            obtain ⟨z13, ez13⟩ : ∃ z : Int32, z = y5 + 1 := ⟨_, rfl⟩
            have h := h z13 ez13
            refine lv_iinc (v := z13) (lv' := [(5, .int z13), (0, .ref (a 7)), (1, .int x1), (2, .int x2), (3, .int x3), (4, .int x4), (6, .int y6)]) hx hb d_Mod_fill_59 hl (k := 5) rfl (by rw [ez13]; exact congrArg (y5 + ·) (by decide)) (by decide) rfl (fun ls hl => ?_)
            obtain ⟨z14, ez14⟩ : ∃ z : Int32, z = y6 + 1 := ⟨_, rfl⟩
            have h := h z14 ez14
            refine lv_iinc (v := z14) (lv' := [(6, .int z14), (5, .int z13), (0, .ref (a 7)), (1, .int x1), (2, .int x2), (3, .int x3), (4, .int x4)]) hx hb d_Mod_fill_62 hl (k := 6) rfl (by rw [ez14]; exact congrArg (y6 + ·) (by decide)) (by decide) rfl (fun ls hl => ?_)
            refine lv_goto (tgt := 11) hx hb d_Mod_fill_65 (by decide) ?_
            exact ih Mod_thrown f12 z13 z14 _ _ ls hw (lv_sub hl [2, 3, 4, 5, 6, 1, 0] rfl) h
set_option maxHeartbeats 2000000 in
set_option maxRecDepth 20000 in
theorem c_Mod_fill {l : Launch} {dC : Nat → ClassId} {dI : Nat → Nat → Nat} {cI : ClassId} {tb a n : Nat → Nat} {Mod_thrown : Int32} {Mod_width : Int32} {Mod_height : Int32} {Mod_many : Int32} {Mod_size : Int32} {Mod_bit : Int32} {Mod_single : Int32} {Mod_runs : Int32} {Mod_longest : Int32} {mc : Nat → Int32} {x1 : Int32} {x2 : Int32} {x3 : Int32} {x4 : Int32} {post : Int32 → Int32 × (Nat → Int32) → Prop} (h : wp_Mod_fill n Mod_thrown Mod_width Mod_height mc x1 x2 x3 x4 post) : CtI classes dC dI cI tb l y_Mod_fill prog_9_method_5_code 7 .int ({ frames := 1, cells := 0, slots := 0, locals := 22 }) [.ref (a 7), .int x1, .int x2, .int x3, .int x4] [e_Mod a Mod_thrown Mod_width Mod_height Mod_many Mod_size Mod_bit Mod_single Mod_runs Mod_longest, e_ar a n cI 15 mc] (Int32 × (Nat → Int32)) (fun u => [e_Mod a u.1 Mod_width Mod_height Mod_many Mod_size Mod_bit Mod_single Mod_runs Mod_longest, e_ar a n cI 15 u.2]) post := by
  refine startI (by decide) (Nat.le_of_ble_eq_true rfl) ?_
  intro p e s m below meth c ls E hr hlk hnm hl hw
  have hl : lv_has ls 7 [(0, .ref (a 7)), (1, .int x1), (2, .int x2), (3, .int x3), (4, .int x4)] := hl
  generalize va_A [e_Mod a Mod_thrown Mod_width Mod_height Mod_many Mod_size Mod_bit Mod_single Mod_runs Mod_longest, e_ar a n cI 15 mc] s.heap.size = A at hw ⊢
  obtain ⟨hx, hb, hml, hown, hts⟩ := id E
  unfold wp_Mod_fill at h
  refine lv_aload_n hx hb d_Mod_fill_0 rfl (lv_at hl 0 rfl) ?_
  refine lv_iconst (v := 0) hx hb d_Mod_fill_1 (by decide) ?_
  refine kput (v := .int 0) (ty := .int) (T := F_Mod) (ws' := [e_Mod a 0 Mod_width Mod_height Mod_many Mod_size Mod_bit Mod_single Mod_runs Mod_longest, e_ar a n cI 15 mc]) E hw in_Mod t_Mod t_Mod_ok n_Mod rfl 0 0 rfl (by decide) tw435 rfl rfl rfl rfl (Nat.le_of_ble_eq_true rfl) rfl d_Mod_fill_2 (fun H locs hw => ?_)
  refine lv_iconst (v := 0) hx hb d_Mod_fill_5 (by decide) ?_
  refine lv_istore (lv' := [(5, .int 0), (0, .ref (a 7)), (1, .int x1), (2, .int x2), (3, .int x3), (4, .int x4)]) hx hb d_Mod_fill_6 hl (by decide) rfl (fun ls hl => ?_)
  refine lv_iconst (v := 0) hx hb d_Mod_fill_8 (by decide) ?_
  refine lv_istore (lv' := [(6, .int 0), (5, .int 0), (0, .ref (a 7)), (1, .int x1), (2, .int x2), (3, .int x3), (4, .int x4)]) hx hb d_Mod_fill_9 hl (by decide) rfl (fun ls hl => ?_)
  obtain ⟨N15, h⟩ := h
  exact s_Mod_fill_11 (a := a) (n := n) (tb := tb) E hr hlk  N15 0 mc 0 0 _ _ ls hw (lv_sub hl [2, 3, 4, 5, 6, 1, 0] rfl) h
-- PicturePackerModel.pixel(II)I
theorem d_Mod_pixel_0 : decode prog_9_method_6_code 0 = .ok (.aload_n 0, 1) := by decide +kernel
theorem d_Mod_pixel_1 : decode prog_9_method_6_code 1 = .ok (.iconst 0, 1) := by decide +kernel
theorem d_Mod_pixel_2 : decode prog_9_method_6_code 2 = .ok (.putfield 26, 3) := by decide +kernel
theorem d_Mod_pixel_5 : decode prog_9_method_6_code 5 = .ok (.aload_n 0, 1) := by decide +kernel
theorem d_Mod_pixel_6 : decode prog_9_method_6_code 6 = .ok (.iload_n 1, 1) := by decide +kernel
theorem d_Mod_pixel_7 : decode prog_9_method_6_code 7 = .ok (.iload_n 2, 1) := by decide +kernel
theorem d_Mod_pixel_8 : decode prog_9_method_6_code 8 = .ok (.invokevirtual 29, 3) := by decide +kernel
theorem d_Mod_pixel_11 : decode prog_9_method_6_code 11 = .ok (.ifCond .eq 17, 3) := by decide +kernel
theorem d_Mod_pixel_14 : decode prog_9_method_6_code 14 = .ok (.aload_n 0, 1) := by decide +kernel
theorem d_Mod_pixel_15 : decode prog_9_method_6_code 15 = .ok (.getfield 7, 3) := by decide +kernel
theorem d_Mod_pixel_18 : decode prog_9_method_6_code 18 = .ok (.bipush 48, 2) := by decide +kernel
theorem d_Mod_pixel_20 : decode prog_9_method_6_code 20 = .ok (.iload_n 2, 1) := by decide +kernel
theorem d_Mod_pixel_21 : decode prog_9_method_6_code 21 = .ok (.imul, 1) := by decide +kernel
theorem d_Mod_pixel_22 : decode prog_9_method_6_code 22 = .ok (.iload_n 1, 1) := by decide +kernel
theorem d_Mod_pixel_23 : decode prog_9_method_6_code 23 = .ok (.iadd, 1) := by decide +kernel
theorem d_Mod_pixel_24 : decode prog_9_method_6_code 24 = .ok (.iaload, 1) := by decide +kernel
theorem d_Mod_pixel_25 : decode prog_9_method_6_code 25 = .ok (.goto 4, 3) := by decide +kernel
theorem d_Mod_pixel_28 : decode prog_9_method_6_code 28 = .ok (.iconst (-1), 1) := by decide +kernel
theorem d_Mod_pixel_29 : decode prog_9_method_6_code 29 = .ok (.ireturn, 1) := by decide +kernel
abbrev y_Mod_pixel : MethodName := ⟨"PicturePackerModel", "pixel", "(II)I"⟩
def wp_Mod_pixel (n : Nat → Nat) (Mod_thrown : Int32) (Mod_width : Int32) (Mod_height : Int32) (mc : Nat → Int32) (x1 : Int32) (x2 : Int32) (post : Int32 → Int32 → Prop) : Prop := wp_Mod_in n Mod_width Mod_height x1 x2 (fun r2 _ => ((r2 : Int32) = 0 → (post ((-1)) 0)) ∧ (¬ ((r2 : Int32) = 0) → (vp_in ((48 * x2) + x1) (n 15) ∧ (post (mc ((48 * x2) + x1 : Int32).toNatClampNeg) 0))))
set_option maxHeartbeats 2000000 in
set_option maxRecDepth 20000 in
theorem c_Mod_pixel {l : Launch} {dC : Nat → ClassId} {dI : Nat → Nat → Nat} {cI : ClassId} {tb a n : Nat → Nat} {Mod_thrown : Int32} {Mod_width : Int32} {Mod_height : Int32} {Mod_many : Int32} {Mod_size : Int32} {Mod_bit : Int32} {Mod_single : Int32} {Mod_runs : Int32} {Mod_longest : Int32} {mc : Nat → Int32} {x1 : Int32} {x2 : Int32} {post : Int32 → Int32 → Prop} (h : wp_Mod_pixel n Mod_thrown Mod_width Mod_height mc x1 x2 post) : CtI classes dC dI cI tb l y_Mod_pixel prog_9_method_6_code 3 .int ({ frames := 1, cells := 0, slots := 0, locals := 22 }) [.ref (a 7), .int x1, .int x2] [e_Mod a Mod_thrown Mod_width Mod_height Mod_many Mod_size Mod_bit Mod_single Mod_runs Mod_longest, e_ar a n cI 15 mc] (Int32) (fun u => [e_Mod a u Mod_width Mod_height Mod_many Mod_size Mod_bit Mod_single Mod_runs Mod_longest, e_ar a n cI 15 mc]) post := by
  refine startI (by decide) (Nat.le_of_ble_eq_true rfl) ?_
  intro p e s m below meth c ls E hr hlk hnm hl hw
  have hl : lv_has ls 3 [(0, .ref (a 7)), (1, .int x1), (2, .int x2)] := hl
  generalize va_A [e_Mod a Mod_thrown Mod_width Mod_height Mod_many Mod_size Mod_bit Mod_single Mod_runs Mod_longest, e_ar a n cI 15 mc] s.heap.size = A at hw ⊢
  obtain ⟨hx, hb, hml, hown, hts⟩ := id E
  unfold wp_Mod_pixel at h
  refine lv_aload_n hx hb d_Mod_pixel_0 rfl (lv_at hl 0 rfl) ?_
  refine lv_iconst (v := 0) hx hb d_Mod_pixel_1 (by decide) ?_
  refine kput (v := .int 0) (ty := .int) (T := F_Mod) (ws' := [e_Mod a 0 Mod_width Mod_height Mod_many Mod_size Mod_bit Mod_single Mod_runs Mod_longest, e_ar a n cI 15 mc]) E hw in_Mod t_Mod t_Mod_ok n_Mod rfl 0 0 rfl (by decide) tw435 rfl rfl rfl rfl (Nat.le_of_ble_eq_true rfl) rfl d_Mod_pixel_2 (fun H locs hw => ?_)
  refine lv_aload_n hx hb d_Mod_pixel_5 rfl (lv_at hl 0 rfl) ?_
  refine lv_iload_n hx hb d_Mod_pixel_6 rfl (lv_at hl 1 rfl) ?_
  refine lv_iload_n hx hb d_Mod_pixel_7 rfl (lv_at hl 2 rfl) ?_
  refine kVi (y := y_Mod_in) (ws' := fun _ => [e_Mod a 0 Mod_width Mod_height Mod_many Mod_size Mod_bit Mod_single Mod_runs Mod_longest, e_ar a n cI 15 mc]) (wr := [e_ar a n cI 15 mc]) (As := [.int x1, .int x2]) (rest := []) E hw (c_Mod_in (l := l) (dC := dC) (dI := dI) (cI := cI) (tb := tb) (a := a) (n := n) (Mod_thrown := 0) (Mod_width := Mod_width) (Mod_height := Mod_height) (Mod_many := Mod_many) (Mod_size := Mod_size) (Mod_bit := Mod_bit) (Mod_single := Mod_single) (Mod_runs := Mod_runs) (Mod_longest := Mod_longest) (x1 := x1) (x2 := x2) h) tw476 tw478 tw16 tw44 tw479 2 (by decide) ⟨Nat.le_of_ble_eq_true rfl, Nat.le_of_ble_eq_true rfl⟩ ⟨Nat.le_of_ble_eq_true rfl, Nat.le_of_ble_eq_true rfl⟩ ⟨rfl, rfl⟩ rfl rfl 0 rfl [0] [1] [1, 0] rfl rfl rfl rfl (by decide) rfl (fun _ => rfl) hl.1 rfl rfl (Nat.le_of_ble_eq_true rfl) d_Mod_pixel_8 (fun r2 u1 H locs h hw => ?_)
  refine lv_if_eq (tgt := 28) hx hb d_Mod_pixel_11 (by decide) (fun c3 => ?_) (fun c3 => ?_)
  · have h := h.1 c3
    refine lv_iconst (v := (-1)) hx hb d_Mod_pixel_28 (by decide) ?_
    exact retI (out := fun u => [e_Mod a u Mod_width Mod_height Mod_many Mod_size Mod_bit Mod_single Mod_runs Mod_longest, e_ar a n cI 15 mc]) (u := 0) E hr hlk rfl hw h d_Mod_pixel_29
  · have h := h.2 c3
    refine lv_aload_n hx hb d_Mod_pixel_14 rfl (lv_at hl 0 rfl) ?_
    refine kget (v := .ref (a 15)) (T := F_Mod) E hw in_Mod rfl 0 3 rfl (by decide) tw438 rfl d_Mod_pixel_15 ?_
    refine lv_bipush (v := 48) hx hb d_Mod_pixel_18 (by decide) ?_
    refine lv_iload_n hx hb d_Mod_pixel_20 rfl (lv_at hl 2 rfl) ?_
    refine lv_imul hx hb d_Mod_pixel_21 ?_
    refine lv_iload_n hx hb d_Mod_pixel_22 rfl (lv_at hl 1 rfl) ?_
    refine lv_iadd hx hb d_Mod_pixel_23 ?_
    obtain ⟨b4, h⟩ := h
    refine kald E hw 1 rfl b4 d_Mod_pixel_24 ?_
    refine lv_goto (tgt := 29) hx hb d_Mod_pixel_25 (by decide) ?_
    exact retI (out := fun u => [e_Mod a u Mod_width Mod_height Mod_many Mod_size Mod_bit Mod_single Mod_runs Mod_longest, e_ar a n cI 15 mc]) (u := 0) E hr hlk rfl hw h d_Mod_pixel_29
-- PicturePackerModel.byteOf(II)I
theorem d_Mod_byteOf_0 : decode prog_9_method_7_code 0 = .ok (.iload_n 1, 1) := by decide +kernel
theorem d_Mod_byteOf_1 : decode prog_9_method_7_code 1 = .ok (.ifCond .lt 7, 3) := by decide +kernel
theorem d_Mod_byteOf_4 : decode prog_9_method_7_code 4 = .ok (.iload_n 2, 1) := by decide +kernel
theorem d_Mod_byteOf_5 : decode prog_9_method_7_code 5 = .ok (.ifCond .ge 5, 3) := by decide +kernel
theorem d_Mod_byteOf_8 : decode prog_9_method_7_code 8 = .ok (.iconst 0, 1) := by decide +kernel
theorem d_Mod_byteOf_9 : decode prog_9_method_7_code 9 = .ok (.ireturn, 1) := by decide +kernel
theorem d_Mod_byteOf_10 : decode prog_9_method_7_code 10 = .ok (.aload_n 0, 1) := by decide +kernel
theorem d_Mod_byteOf_11 : decode prog_9_method_7_code 11 = .ok (.getfield 7, 3) := by decide +kernel
theorem d_Mod_byteOf_14 : decode prog_9_method_7_code 14 = .ok (.bipush 48, 2) := by decide +kernel
theorem d_Mod_byteOf_16 : decode prog_9_method_7_code 16 = .ok (.iload_n 2, 1) := by decide +kernel
theorem d_Mod_byteOf_17 : decode prog_9_method_7_code 17 = .ok (.imul, 1) := by decide +kernel
theorem d_Mod_byteOf_18 : decode prog_9_method_7_code 18 = .ok (.iload_n 1, 1) := by decide +kernel
theorem d_Mod_byteOf_19 : decode prog_9_method_7_code 19 = .ok (.iconst 3, 1) := by decide +kernel
theorem d_Mod_byteOf_20 : decode prog_9_method_7_code 20 = .ok (.idiv, 1) := by decide +kernel
theorem d_Mod_byteOf_21 : decode prog_9_method_7_code 21 = .ok (.iadd, 1) := by decide +kernel
theorem d_Mod_byteOf_22 : decode prog_9_method_7_code 22 = .ok (.iaload, 1) := by decide +kernel
theorem d_Mod_byteOf_23 : decode prog_9_method_7_code 23 = .ok (.bipush 16, 2) := by decide +kernel
theorem d_Mod_byteOf_25 : decode prog_9_method_7_code 25 = .ok (.bipush 8, 2) := by decide +kernel
theorem d_Mod_byteOf_27 : decode prog_9_method_7_code 27 = .ok (.iload_n 1, 1) := by decide +kernel
theorem d_Mod_byteOf_28 : decode prog_9_method_7_code 28 = .ok (.iconst 3, 1) := by decide +kernel
theorem d_Mod_byteOf_29 : decode prog_9_method_7_code 29 = .ok (.irem, 1) := by decide +kernel
theorem d_Mod_byteOf_30 : decode prog_9_method_7_code 30 = .ok (.imul, 1) := by decide +kernel
theorem d_Mod_byteOf_31 : decode prog_9_method_7_code 31 = .ok (.isub, 1) := by decide +kernel
theorem d_Mod_byteOf_32 : decode prog_9_method_7_code 32 = .ok (.ishr, 1) := by decide +kernel
theorem d_Mod_byteOf_33 : decode prog_9_method_7_code 33 = .ok (.sipush 255, 3) := by decide +kernel
theorem d_Mod_byteOf_36 : decode prog_9_method_7_code 36 = .ok (.iand, 1) := by decide +kernel
theorem d_Mod_byteOf_37 : decode prog_9_method_7_code 37 = .ok (.ireturn, 1) := by decide +kernel
abbrev y_Mod_byteOf : MethodName := ⟨"PicturePackerModel", "byteOf", "(II)I"⟩
def wp_Mod_byteOf (n : Nat → Nat) (mc : Nat → Int32) (x1 : Int32) (x2 : Int32) (post : Int32 → Unit → Prop) : Prop := ((x1 : Int32) < 0 → (post 0 ())) ∧ (¬ ((x1 : Int32) < 0) → (((0 : Int32) ≤ x2 → (vp_in ((48 * x2) + (x1 / 3)) (n 15) ∧ (post (((mc ((48 * x2) + (x1 / 3) : Int32).toNatClampNeg : Int32) >>> (16 - (8 * (x1 - x1 / 3 * 3)) &&& 31)) &&& 255) ()))) ∧ (¬ ((0 : Int32) ≤ x2) → (post 0 ()))))
set_option maxHeartbeats 2000000 in
set_option maxRecDepth 20000 in
theorem c_Mod_byteOf {l : Launch} {dC : Nat → ClassId} {dI : Nat → Nat → Nat} {cI : ClassId} {tb a n : Nat → Nat} {Mod_thrown : Int32} {Mod_width : Int32} {Mod_height : Int32} {Mod_many : Int32} {Mod_size : Int32} {Mod_bit : Int32} {Mod_single : Int32} {Mod_runs : Int32} {Mod_longest : Int32} {mc : Nat → Int32} {x1 : Int32} {x2 : Int32} {post : Int32 → Unit → Prop} (h : wp_Mod_byteOf n mc x1 x2 post) : CtI classes dC dI cI tb l y_Mod_byteOf prog_9_method_7_code 3 .int ({ frames := 0, cells := 0, slots := 0, locals := 0 }) [.ref (a 7), .int x1, .int x2] [e_Mod a Mod_thrown Mod_width Mod_height Mod_many Mod_size Mod_bit Mod_single Mod_runs Mod_longest, e_ar a n cI 15 mc] (Unit) (fun _ => [e_Mod a Mod_thrown Mod_width Mod_height Mod_many Mod_size Mod_bit Mod_single Mod_runs Mod_longest, e_ar a n cI 15 mc]) post := by
  refine startI (by decide) (Nat.le_of_ble_eq_true rfl) ?_
  intro p e s m below meth c ls E hr hlk hnm hl hw
  have hl : lv_has ls 3 [(0, .ref (a 7)), (1, .int x1), (2, .int x2)] := hl
  generalize va_A [e_Mod a Mod_thrown Mod_width Mod_height Mod_many Mod_size Mod_bit Mod_single Mod_runs Mod_longest, e_ar a n cI 15 mc] s.heap.size = A at hw ⊢
  obtain ⟨hx, hb, hml, hown, hts⟩ := id E
  unfold wp_Mod_byteOf at h
  refine lv_iload_n hx hb d_Mod_byteOf_0 rfl (lv_at hl 1 rfl) ?_
  refine lv_if_lt (tgt := 8) hx hb d_Mod_byteOf_1 (by decide) (fun c1 => ?_) (fun c1 => ?_)
  · have h := h.1 c1
    refine lv_iconst (v := 0) hx hb d_Mod_byteOf_8 (by decide) ?_
    exact retI (out := fun u => [e_Mod a Mod_thrown Mod_width Mod_height Mod_many Mod_size Mod_bit Mod_single Mod_runs Mod_longest, e_ar a n cI 15 mc]) (u := ()) E hr hlk rfl hw h d_Mod_byteOf_9
  · have h := h.2 c1
    refine lv_iload_n hx hb d_Mod_byteOf_4 rfl (lv_at hl 2 rfl) ?_
    refine lv_if_ge (tgt := 10) hx hb d_Mod_byteOf_5 (by decide) (fun c2 => ?_) (fun c2 => ?_)
    · have h := h.1 c2
      refine lv_aload_n hx hb d_Mod_byteOf_10 rfl (lv_at hl 0 rfl) ?_
      refine kget (v := .ref (a 15)) (T := F_Mod) E hw in_Mod rfl 0 3 rfl (by decide) tw438 rfl d_Mod_byteOf_11 ?_
      refine lv_bipush (v := 48) hx hb d_Mod_byteOf_14 (by decide) ?_
      refine lv_iload_n hx hb d_Mod_byteOf_16 rfl (lv_at hl 2 rfl) ?_
      refine lv_imul hx hb d_Mod_byteOf_17 ?_
      refine lv_iload_n hx hb d_Mod_byteOf_18 rfl (lv_at hl 1 rfl) ?_
      refine lv_iconst (v := 3) hx hb d_Mod_byteOf_19 (by decide) ?_
      refine lv_idiv hx hb d_Mod_byteOf_20 (by decide) ?_
      refine lv_iadd hx hb d_Mod_byteOf_21 ?_
      obtain ⟨b3, h⟩ := h
      refine kald E hw 1 rfl b3 d_Mod_byteOf_22 ?_
      refine lv_bipush (v := 16) hx hb d_Mod_byteOf_23 (by decide) ?_
      refine lv_bipush (v := 8) hx hb d_Mod_byteOf_25 (by decide) ?_
      refine lv_iload_n hx hb d_Mod_byteOf_27 rfl (lv_at hl 1 rfl) ?_
      refine lv_iconst (v := 3) hx hb d_Mod_byteOf_28 (by decide) ?_
      refine lv_irem hx hb d_Mod_byteOf_29 (by decide) ?_
      refine lv_imul hx hb d_Mod_byteOf_30 ?_
      refine lv_isub hx hb d_Mod_byteOf_31 ?_
      refine lv_ishr hx hb d_Mod_byteOf_32 ?_
      refine lv_sipush (v := 255) hx hb d_Mod_byteOf_33 (by decide) ?_
      refine lv_iand hx hb d_Mod_byteOf_36 ?_
      exact retI (out := fun u => [e_Mod a Mod_thrown Mod_width Mod_height Mod_many Mod_size Mod_bit Mod_single Mod_runs Mod_longest, e_ar a n cI 15 mc]) (u := ()) E hr hlk rfl hw h d_Mod_byteOf_37
    · have h := h.2 c2
      refine lv_iconst (v := 0) hx hb d_Mod_byteOf_8 (by decide) ?_
      exact retI (out := fun u => [e_Mod a Mod_thrown Mod_width Mod_height Mod_many Mod_size Mod_bit Mod_single Mod_runs Mod_longest, e_ar a n cI 15 mc]) (u := ()) E hr hlk rfl hw h d_Mod_byteOf_9
-- PicturePackerModel.far(II)I
theorem d_Mod_far_0 : decode prog_9_method_8_code 0 = .ok (.iload_n 0, 1) := by decide +kernel
theorem d_Mod_far_1 : decode prog_9_method_8_code 1 = .ok (.iload_n 1, 1) := by decide +kernel
theorem d_Mod_far_2 : decode prog_9_method_8_code 2 = .ok (.if_icmp .ge 9, 3) := by decide +kernel
theorem d_Mod_far_5 : decode prog_9_method_8_code 5 = .ok (.iload_n 1, 1) := by decide +kernel
theorem d_Mod_far_6 : decode prog_9_method_8_code 6 = .ok (.iload_n 0, 1) := by decide +kernel
theorem d_Mod_far_7 : decode prog_9_method_8_code 7 = .ok (.isub, 1) := by decide +kernel
theorem d_Mod_far_8 : decode prog_9_method_8_code 8 = .ok (.goto 6, 3) := by decide +kernel
theorem d_Mod_far_11 : decode prog_9_method_8_code 11 = .ok (.iload_n 0, 1) := by decide +kernel
theorem d_Mod_far_12 : decode prog_9_method_8_code 12 = .ok (.iload_n 1, 1) := by decide +kernel
theorem d_Mod_far_13 : decode prog_9_method_8_code 13 = .ok (.isub, 1) := by decide +kernel
theorem d_Mod_far_14 : decode prog_9_method_8_code 14 = .ok (.ireturn, 1) := by decide +kernel
abbrev y_Mod_far : MethodName := ⟨"PicturePackerModel", "far", "(II)I"⟩
def wp_Mod_far (n : Nat → Nat) (x0 : Int32) (x1 : Int32) (post : Int32 → Unit → Prop) : Prop := ((x1 : Int32) ≤ x0 → (post (x0 - x1) ())) ∧ (¬ ((x1 : Int32) ≤ x0) → (post (x1 - x0) ()))
set_option maxHeartbeats 2000000 in
set_option maxRecDepth 20000 in
theorem c_Mod_far {l : Launch} {dC : Nat → ClassId} {dI : Nat → Nat → Nat} {cI : ClassId} {tb a n : Nat → Nat} {x0 : Int32} {x1 : Int32} {post : Int32 → Unit → Prop} (h : wp_Mod_far n x0 x1 post) : CtI classes dC dI cI tb l y_Mod_far prog_9_method_8_code 2 .int ({ frames := 0, cells := 0, slots := 0, locals := 0 }) [.int x0, .int x1] [] (Unit) (fun _ => []) post := by
  refine startI (by decide) (Nat.le_of_ble_eq_true rfl) ?_
  intro p e s m below meth c ls E hr hlk hnm hl hw
  have hl : lv_has ls 2 [(0, .int x0), (1, .int x1)] := hl
  generalize va_A [] s.heap.size = A at hw ⊢
  obtain ⟨hx, hb, hml, hown, hts⟩ := id E
  unfold wp_Mod_far at h
  refine lv_iload_n hx hb d_Mod_far_0 rfl (lv_at hl 0 rfl) ?_
  refine lv_iload_n hx hb d_Mod_far_1 rfl (lv_at hl 1 rfl) ?_
  refine lv_icmp_ge (tgt := 11) hx hb d_Mod_far_2 (by decide) (fun c1 => ?_) (fun c1 => ?_)
  · have h := h.1 c1
    refine lv_iload_n hx hb d_Mod_far_11 rfl (lv_at hl 0 rfl) ?_
    refine lv_iload_n hx hb d_Mod_far_12 rfl (lv_at hl 1 rfl) ?_
    refine lv_isub hx hb d_Mod_far_13 ?_
    exact retI (out := fun u => []) (u := ()) E hr hlk rfl hw h d_Mod_far_14
  · have h := h.2 c1
    refine lv_iload_n hx hb d_Mod_far_5 rfl (lv_at hl 1 rfl) ?_
    refine lv_iload_n hx hb d_Mod_far_6 rfl (lv_at hl 0 rfl) ?_
    refine lv_isub hx hb d_Mod_far_7 ?_
    refine lv_goto (tgt := 14) hx hb d_Mod_far_8 (by decide) ?_
    exact retI (out := fun u => []) (u := ()) E hr hlk rfl hw h d_Mod_far_14
-- PicturePackerModel.filtered(III)I
theorem d_Mod_filtered_0 : decode prog_9_method_9_code 0 = .ok (.aload_n 0, 1) := by decide +kernel
theorem d_Mod_filtered_1 : decode prog_9_method_9_code 1 = .ok (.iload_n 2, 1) := by decide +kernel
theorem d_Mod_filtered_2 : decode prog_9_method_9_code 2 = .ok (.iconst 3, 1) := by decide +kernel
theorem d_Mod_filtered_3 : decode prog_9_method_9_code 3 = .ok (.isub, 1) := by decide +kernel
theorem d_Mod_filtered_4 : decode prog_9_method_9_code 4 = .ok (.iload_n 3, 1) := by decide +kernel
theorem d_Mod_filtered_5 : decode prog_9_method_9_code 5 = .ok (.invokevirtual 34, 3) := by decide +kernel
theorem d_Mod_filtered_8 : decode prog_9_method_9_code 8 = .ok (.istore 4, 2) := by decide +kernel
theorem d_Mod_filtered_10 : decode prog_9_method_9_code 10 = .ok (.aload_n 0, 1) := by decide +kernel
theorem d_Mod_filtered_11 : decode prog_9_method_9_code 11 = .ok (.iload_n 2, 1) := by decide +kernel
theorem d_Mod_filtered_12 : decode prog_9_method_9_code 12 = .ok (.iload_n 3, 1) := by decide +kernel
theorem d_Mod_filtered_13 : decode prog_9_method_9_code 13 = .ok (.iconst 1, 1) := by decide +kernel
theorem d_Mod_filtered_14 : decode prog_9_method_9_code 14 = .ok (.isub, 1) := by decide +kernel
theorem d_Mod_filtered_15 : decode prog_9_method_9_code 15 = .ok (.invokevirtual 34, 3) := by decide +kernel
theorem d_Mod_filtered_18 : decode prog_9_method_9_code 18 = .ok (.istore 5, 2) := by decide +kernel
theorem d_Mod_filtered_20 : decode prog_9_method_9_code 20 = .ok (.iload_n 2, 1) := by decide +kernel
theorem d_Mod_filtered_21 : decode prog_9_method_9_code 21 = .ok (.iconst 3, 1) := by decide +kernel
theorem d_Mod_filtered_22 : decode prog_9_method_9_code 22 = .ok (.if_icmp .ge 7, 3) := by decide +kernel
theorem d_Mod_filtered_25 : decode prog_9_method_9_code 25 = .ok (.iconst 0, 1) := by decide +kernel
theorem d_Mod_filtered_26 : decode prog_9_method_9_code 26 = .ok (.goto 13, 3) := by decide +kernel
theorem d_Mod_filtered_29 : decode prog_9_method_9_code 29 = .ok (.aload_n 0, 1) := by decide +kernel
theorem d_Mod_filtered_30 : decode prog_9_method_9_code 30 = .ok (.iload_n 2, 1) := by decide +kernel
theorem d_Mod_filtered_31 : decode prog_9_method_9_code 31 = .ok (.iconst 3, 1) := by decide +kernel
theorem d_Mod_filtered_32 : decode prog_9_method_9_code 32 = .ok (.isub, 1) := by decide +kernel
theorem d_Mod_filtered_33 : decode prog_9_method_9_code 33 = .ok (.iload_n 3, 1) := by decide +kernel
theorem d_Mod_filtered_34 : decode prog_9_method_9_code 34 = .ok (.iconst 1, 1) := by decide +kernel
theorem d_Mod_filtered_35 : decode prog_9_method_9_code 35 = .ok (.isub, 1) := by decide +kernel
theorem d_Mod_filtered_36 : decode prog_9_method_9_code 36 = .ok (.invokevirtual 34, 3) := by decide +kernel
theorem d_Mod_filtered_39 : decode prog_9_method_9_code 39 = .ok (.istore 6, 2) := by decide +kernel
theorem d_Mod_filtered_41 : decode prog_9_method_9_code 41 = .ok (.iload 4, 2) := by decide +kernel
theorem d_Mod_filtered_43 : decode prog_9_method_9_code 43 = .ok (.iload 5, 2) := by decide +kernel
theorem d_Mod_filtered_45 : decode prog_9_method_9_code 45 = .ok (.iadd, 1) := by decide +kernel
theorem d_Mod_filtered_46 : decode prog_9_method_9_code 46 = .ok (.iload 6, 2) := by decide +kernel
theorem d_Mod_filtered_48 : decode prog_9_method_9_code 48 = .ok (.isub, 1) := by decide +kernel
theorem d_Mod_filtered_49 : decode prog_9_method_9_code 49 = .ok (.istore 7, 2) := by decide +kernel
theorem d_Mod_filtered_51 : decode prog_9_method_9_code 51 = .ok (.iload 7, 2) := by decide +kernel
theorem d_Mod_filtered_53 : decode prog_9_method_9_code 53 = .ok (.iload 4, 2) := by decide +kernel
theorem d_Mod_filtered_55 : decode prog_9_method_9_code 55 = .ok (.invokestatic 38, 3) := by decide +kernel
theorem d_Mod_filtered_58 : decode prog_9_method_9_code 58 = .ok (.iload 7, 2) := by decide +kernel
theorem d_Mod_filtered_60 : decode prog_9_method_9_code 60 = .ok (.iload 5, 2) := by decide +kernel
theorem d_Mod_filtered_62 : decode prog_9_method_9_code 62 = .ok (.invokestatic 38, 3) := by decide +kernel
theorem d_Mod_filtered_65 : decode prog_9_method_9_code 65 = .ok (.if_icmp .gt 25, 3) := by decide +kernel
theorem d_Mod_filtered_68 : decode prog_9_method_9_code 68 = .ok (.iload 7, 2) := by decide +kernel
theorem d_Mod_filtered_70 : decode prog_9_method_9_code 70 = .ok (.iload 4, 2) := by decide +kernel
theorem d_Mod_filtered_72 : decode prog_9_method_9_code 72 = .ok (.invokestatic 38, 3) := by decide +kernel
theorem d_Mod_filtered_75 : decode prog_9_method_9_code 75 = .ok (.iload 7, 2) := by decide +kernel
theorem d_Mod_filtered_77 : decode prog_9_method_9_code 77 = .ok (.iload 6, 2) := by decide +kernel
theorem d_Mod_filtered_79 : decode prog_9_method_9_code 79 = .ok (.invokestatic 38, 3) := by decide +kernel
theorem d_Mod_filtered_82 : decode prog_9_method_9_code 82 = .ok (.if_icmp .gt 8, 3) := by decide +kernel
theorem d_Mod_filtered_85 : decode prog_9_method_9_code 85 = .ok (.iload 4, 2) := by decide +kernel
theorem d_Mod_filtered_87 : decode prog_9_method_9_code 87 = .ok (.goto 27, 3) := by decide +kernel
theorem d_Mod_filtered_90 : decode prog_9_method_9_code 90 = .ok (.iload 7, 2) := by decide +kernel
theorem d_Mod_filtered_92 : decode prog_9_method_9_code 92 = .ok (.iload 5, 2) := by decide +kernel
theorem d_Mod_filtered_94 : decode prog_9_method_9_code 94 = .ok (.invokestatic 38, 3) := by decide +kernel
theorem d_Mod_filtered_97 : decode prog_9_method_9_code 97 = .ok (.iload 7, 2) := by decide +kernel
theorem d_Mod_filtered_99 : decode prog_9_method_9_code 99 = .ok (.iload 6, 2) := by decide +kernel
theorem d_Mod_filtered_101 : decode prog_9_method_9_code 101 = .ok (.invokestatic 38, 3) := by decide +kernel
theorem d_Mod_filtered_104 : decode prog_9_method_9_code 104 = .ok (.if_icmp .gt 8, 3) := by decide +kernel
theorem d_Mod_filtered_107 : decode prog_9_method_9_code 107 = .ok (.iload 5, 2) := by decide +kernel
theorem d_Mod_filtered_109 : decode prog_9_method_9_code 109 = .ok (.goto 5, 3) := by decide +kernel
theorem d_Mod_filtered_112 : decode prog_9_method_9_code 112 = .ok (.iload 6, 2) := by decide +kernel
theorem d_Mod_filtered_114 : decode prog_9_method_9_code 114 = .ok (.istore 8, 2) := by decide +kernel
theorem d_Mod_filtered_116 : decode prog_9_method_9_code 116 = .ok (.iload_n 1, 1) := by decide +kernel
theorem d_Mod_filtered_117 : decode prog_9_method_9_code 117 = .ok (.ifCond .ne 7, 3) := by decide +kernel
theorem d_Mod_filtered_120 : decode prog_9_method_9_code 120 = .ok (.iconst 0, 1) := by decide +kernel
theorem d_Mod_filtered_121 : decode prog_9_method_9_code 121 = .ok (.goto 40, 3) := by decide +kernel
theorem d_Mod_filtered_124 : decode prog_9_method_9_code 124 = .ok (.iload_n 1, 1) := by decide +kernel
theorem d_Mod_filtered_125 : decode prog_9_method_9_code 125 = .ok (.iconst 1, 1) := by decide +kernel
theorem d_Mod_filtered_126 : decode prog_9_method_9_code 126 = .ok (.if_icmp .ne 8, 3) := by decide +kernel
theorem d_Mod_filtered_129 : decode prog_9_method_9_code 129 = .ok (.iload 4, 2) := by decide +kernel
theorem d_Mod_filtered_131 : decode prog_9_method_9_code 131 = .ok (.goto 30, 3) := by decide +kernel
theorem d_Mod_filtered_134 : decode prog_9_method_9_code 134 = .ok (.iload_n 1, 1) := by decide +kernel
theorem d_Mod_filtered_135 : decode prog_9_method_9_code 135 = .ok (.iconst 2, 1) := by decide +kernel
theorem d_Mod_filtered_136 : decode prog_9_method_9_code 136 = .ok (.if_icmp .ne 8, 3) := by decide +kernel
theorem d_Mod_filtered_139 : decode prog_9_method_9_code 139 = .ok (.iload 5, 2) := by decide +kernel
theorem d_Mod_filtered_141 : decode prog_9_method_9_code 141 = .ok (.goto 20, 3) := by decide +kernel
theorem d_Mod_filtered_144 : decode prog_9_method_9_code 144 = .ok (.iload_n 1, 1) := by decide +kernel
theorem d_Mod_filtered_145 : decode prog_9_method_9_code 145 = .ok (.iconst 3, 1) := by decide +kernel
theorem d_Mod_filtered_146 : decode prog_9_method_9_code 146 = .ok (.if_icmp .ne 13, 3) := by decide +kernel
theorem d_Mod_filtered_149 : decode prog_9_method_9_code 149 = .ok (.iload 4, 2) := by decide +kernel
theorem d_Mod_filtered_151 : decode prog_9_method_9_code 151 = .ok (.iload 5, 2) := by decide +kernel
theorem d_Mod_filtered_153 : decode prog_9_method_9_code 153 = .ok (.iadd, 1) := by decide +kernel
theorem d_Mod_filtered_154 : decode prog_9_method_9_code 154 = .ok (.iconst 2, 1) := by decide +kernel
theorem d_Mod_filtered_155 : decode prog_9_method_9_code 155 = .ok (.idiv, 1) := by decide +kernel
theorem d_Mod_filtered_156 : decode prog_9_method_9_code 156 = .ok (.goto 5, 3) := by decide +kernel
theorem d_Mod_filtered_159 : decode prog_9_method_9_code 159 = .ok (.iload 8, 2) := by decide +kernel
theorem d_Mod_filtered_161 : decode prog_9_method_9_code 161 = .ok (.istore 9, 2) := by decide +kernel
theorem d_Mod_filtered_163 : decode prog_9_method_9_code 163 = .ok (.aload_n 0, 1) := by decide +kernel
theorem d_Mod_filtered_164 : decode prog_9_method_9_code 164 = .ok (.iload_n 2, 1) := by decide +kernel
theorem d_Mod_filtered_165 : decode prog_9_method_9_code 165 = .ok (.iload_n 3, 1) := by decide +kernel
theorem d_Mod_filtered_166 : decode prog_9_method_9_code 166 = .ok (.invokevirtual 34, 3) := by decide +kernel
theorem d_Mod_filtered_169 : decode prog_9_method_9_code 169 = .ok (.iload 9, 2) := by decide +kernel
theorem d_Mod_filtered_171 : decode prog_9_method_9_code 171 = .ok (.isub, 1) := by decide +kernel
theorem d_Mod_filtered_172 : decode prog_9_method_9_code 172 = .ok (.sipush 255, 3) := by decide +kernel
theorem d_Mod_filtered_175 : decode prog_9_method_9_code 175 = .ok (.iand, 1) := by decide +kernel
theorem d_Mod_filtered_176 : decode prog_9_method_9_code 176 = .ok (.ireturn, 1) := by decide +kernel
abbrev y_Mod_filtered : MethodName := ⟨"PicturePackerModel", "filtered", "(III)I"⟩
def wp_Mod_filtered_161 (n : Nat → Nat) (mc : Nat → Int32) (x1 : Int32) (x2 : Int32) (x3 : Int32) (post : Int32 → Unit → Prop) (t0 : Int32) : Prop := wp_Mod_byteOf n mc x2 x3 (fun r24 _ => post ((r24 - t0) &&& 255) ())
def wp_Mod_filtered_114 (n : Nat → Nat) (mc : Nat → Int32) (x1 : Int32) (x2 : Int32) (x3 : Int32) (post : Int32 → Unit → Prop) (t0 : Int32) (y4 : Int32) (y5 : Int32) : Prop := (¬ (x1 : Int32) = 0 → ((¬ (x1 : Int32) = 1 → ((¬ (x1 : Int32) = 2 → ((¬ (x1 : Int32) = 3 → (wp_Mod_filtered_161 n mc x1 x2 x3 post t0)) ∧ ((x1 : Int32) = 3 → (wp_Mod_filtered_161 n mc x1 x2 x3 post ((y4 + y5) / 2))))) ∧ ((x1 : Int32) = 2 → (wp_Mod_filtered_161 n mc x1 x2 x3 post y5)))) ∧ ((x1 : Int32) = 1 → (wp_Mod_filtered_161 n mc x1 x2 x3 post y4)))) ∧ ((x1 : Int32) = 0 → (wp_Mod_filtered_161 n mc x1 x2 x3 post 0))
def wp_Mod_filtered_90 (n : Nat → Nat) (mc : Nat → Int32) (x1 : Int32) (x2 : Int32) (x3 : Int32) (post : Int32 → Unit → Prop) (y4 : Int32) (y5 : Int32) (y6 : Int32) (y7 : Int32) : Prop := wp_Mod_far n y7 y5 (fun r15 _ => wp_Mod_far n y7 y6 (fun r17 _ => ((r17 : Int32) < r15 → (wp_Mod_filtered_114 n mc x1 x2 x3 post y6 y4 y5)) ∧ (¬ ((r17 : Int32) < r15) → (wp_Mod_filtered_114 n mc x1 x2 x3 post y5 y4 y5))))
def wp_Mod_filtered_39 (n : Nat → Nat) (mc : Nat → Int32) (x1 : Int32) (x2 : Int32) (x3 : Int32) (post : Int32 → Unit → Prop) (t0 : Int32) (y4 : Int32) (y5 : Int32) : Prop := ∀ z8 : Int32, z8 = ((y4 + y5) - t0) → (wp_Mod_far n z8 y4 (fun r10 _ => wp_Mod_far n z8 y5 (fun r12 _ => ((r12 : Int32) < r10 → (wp_Mod_filtered_90 n mc x1 x2 x3 post y4 y5 t0 z8)) ∧ (¬ ((r12 : Int32) < r10) → (wp_Mod_far n z8 y4 (fun r26 _ => wp_Mod_far n z8 t0 (fun r28 _ => ((r28 : Int32) < r26 → (wp_Mod_filtered_90 n mc x1 x2 x3 post y4 y5 t0 z8)) ∧ (¬ ((r28 : Int32) < r26) → (wp_Mod_filtered_114 n mc x1 x2 x3 post y4 y4 y5)))))))))
def wp_Mod_filtered (n : Nat → Nat) (mc : Nat → Int32) (x1 : Int32) (x2 : Int32) (x3 : Int32) (post : Int32 → Unit → Prop) : Prop := wp_Mod_byteOf n mc (x2 - 3) x3 (fun r2 _ => wp_Mod_byteOf n mc x2 (x3 - 1) (fun r4 _ => ((3 : Int32) ≤ x2 → (wp_Mod_byteOf n mc (x2 - 3) (x3 - 1) (fun r7 _ => wp_Mod_filtered_39 n mc x1 x2 x3 post r7 r2 r4))) ∧ (¬ ((3 : Int32) ≤ x2) → (wp_Mod_filtered_39 n mc x1 x2 x3 post 0 r2 r4))))
set_option maxHeartbeats 2000000 in
set_option maxRecDepth 20000 in
theorem s_Mod_filtered_161 {l : Launch} {dC : Nat → ClassId} {dI : Nat → Nat → Nat} {cI : ClassId} {tb a n : Nat → Nat} {p : Program} {e : Env} {s : State} {m : MethodId} {args : Array Value} {below : List Frame} {meth : Method} {c : Code} {A : Nat → Prop} (E : CallFix p m c prog_9_method_9_code 10 s args TBL "PicturePackerModel") (hr : meth.sig.returnType = some .int) (hlk : meth.locks = false) {Mod_thrown : Int32} {Mod_width : Int32} {Mod_height : Int32} {Mod_many : Int32} {Mod_size : Int32} {Mod_bit : Int32} {Mod_single : Int32} {Mod_runs : Int32} {Mod_longest : Int32} {mc : Nat → Int32} {x1 : Int32} {x2 : Int32} {x3 : Int32} {post : Int32 → Unit → Prop} : ∀ (t0 : Int32) (H : Heap) (locs : List Loc) (ls : Array Slot), Wl classes dC dI cI tb A s H locs [e_Mod a Mod_thrown Mod_width Mod_height Mod_many Mod_size Mod_bit Mod_single Mod_runs Mod_longest, e_ar a n cI 15 mc] → lv_has ls 10 [(0, .ref (a 7)), (2, .int x2), (3, .int x3)] → wp_Mod_filtered_161 n mc x1 x2 x3 post t0 → W p l e ({ frames := 1, cells := 0, slots := 0, locals := 22 }) s m args below meth c H locs 0 0 (MQ below (va_Qi post (fun u => End0 classes dC dI cI A [e_Mod a Mod_thrown Mod_width Mod_height Mod_many Mod_size Mod_bit Mod_single Mod_runs Mod_longest, e_ar a n cI 15 mc]) A) args s 0 0 A) (F0 m 161 ls [.int t0]) := by
  obtain ⟨hx, hb, hml, hown, hts⟩ := id E
  intro t0 H locs ls hw hl h
  unfold wp_Mod_filtered_161 at h
  refine lv_istore (lv' := [(9, .int t0), (0, .ref (a 7)), (2, .int x2), (3, .int x3)]) hx hb d_Mod_filtered_161 hl (by decide) rfl (fun ls hl => ?_)
  refine lv_aload_n hx hb d_Mod_filtered_163 rfl (lv_at hl 1 rfl) ?_
  refine lv_iload_n hx hb d_Mod_filtered_164 rfl (lv_at hl 2 rfl) ?_
  refine lv_iload_n hx hb d_Mod_filtered_165 rfl (lv_at hl 3 rfl) ?_
  refine kVi (y := y_Mod_byteOf) (ws' := fun _ => [e_Mod a Mod_thrown Mod_width Mod_height Mod_many Mod_size Mod_bit Mod_single Mod_runs Mod_longest, e_ar a n cI 15 mc]) (wr := []) (As := [.int x2, .int x3]) (rest := []) E hw (c_Mod_byteOf (l := l) (dC := dC) (dI := dI) (cI := cI) (tb := tb) (a := a) (n := n) (Mod_thrown := Mod_thrown) (Mod_width := Mod_width) (Mod_height := Mod_height) (Mod_many := Mod_many) (Mod_size := Mod_size) (Mod_bit := Mod_bit) (Mod_single := Mod_single) (Mod_runs := Mod_runs) (Mod_longest := Mod_longest) (mc := mc) (x1 := x2) (x2 := x3) h) tw505 tw507 tw20 tw44 tw508 2 (by decide) ⟨Nat.le_of_ble_eq_true rfl, Nat.le_of_ble_eq_true rfl⟩ ⟨Nat.le_of_ble_eq_true rfl, Nat.le_of_ble_eq_true rfl⟩ ⟨rfl, rfl⟩ rfl rfl 0 rfl [0, 1] [] [0, 1] rfl rfl rfl rfl (by decide) rfl (fun _ => rfl) hl.1 rfl rfl (Nat.le_of_ble_eq_true rfl) d_Mod_filtered_166 (fun r24 u23 H locs h hw => ?_)
  refine lv_iload hx hb d_Mod_filtered_169 (lv_at hl 0 rfl) ?_
  refine lv_isub hx hb d_Mod_filtered_171 ?_
  refine lv_sipush (v := 255) hx hb d_Mod_filtered_172 (by decide) ?_
  refine lv_iand hx hb d_Mod_filtered_175 ?_
  exact retI (out := fun u => [e_Mod a Mod_thrown Mod_width Mod_height Mod_many Mod_size Mod_bit Mod_single Mod_runs Mod_longest, e_ar a n cI 15 mc]) (u := ()) E hr hlk rfl hw h d_Mod_filtered_176
set_option maxHeartbeats 2000000 in
set_option maxRecDepth 20000 in
theorem s_Mod_filtered_114 {l : Launch} {dC : Nat → ClassId} {dI : Nat → Nat → Nat} {cI : ClassId} {tb a n : Nat → Nat} {p : Program} {e : Env} {s : State} {m : MethodId} {args : Array Value} {below : List Frame} {meth : Method} {c : Code} {A : Nat → Prop} (E : CallFix p m c prog_9_method_9_code 10 s args TBL "PicturePackerModel") (hr : meth.sig.returnType = some .int) (hlk : meth.locks = false) {Mod_thrown : Int32} {Mod_width : Int32} {Mod_height : Int32} {Mod_many : Int32} {Mod_size : Int32} {Mod_bit : Int32} {Mod_single : Int32} {Mod_runs : Int32} {Mod_longest : Int32} {mc : Nat → Int32} {x1 : Int32} {x2 : Int32} {x3 : Int32} {post : Int32 → Unit → Prop} : ∀ (t0 : Int32) (y4 : Int32) (y5 : Int32) (H : Heap) (locs : List Loc) (ls : Array Slot), Wl classes dC dI cI tb A s H locs [e_Mod a Mod_thrown Mod_width Mod_height Mod_many Mod_size Mod_bit Mod_single Mod_runs Mod_longest, e_ar a n cI 15 mc] → lv_has ls 10 [(0, .ref (a 7)), (1, .int x1), (2, .int x2), (3, .int x3), (4, .int y4), (5, .int y5)] → wp_Mod_filtered_114 n mc x1 x2 x3 post t0 y4 y5 → W p l e ({ frames := 1, cells := 0, slots := 0, locals := 22 }) s m args below meth c H locs 0 0 (MQ below (va_Qi post (fun u => End0 classes dC dI cI A [e_Mod a Mod_thrown Mod_width Mod_height Mod_many Mod_size Mod_bit Mod_single Mod_runs Mod_longest, e_ar a n cI 15 mc]) A) args s 0 0 A) (F0 m 114 ls [.int t0]) := by
  obtain ⟨hx, hb, hml, hown, hts⟩ := id E
  intro t0 y4 y5 H locs ls hw hl h
  unfold wp_Mod_filtered_114 at h
  refine lv_istore (lv' := [(8, .int t0), (0, .ref (a 7)), (1, .int x1), (2, .int x2), (3, .int x3), (4, .int y4), (5, .int y5)]) hx hb d_Mod_filtered_114 hl (by decide) rfl (fun ls hl => ?_)
  refine lv_iload_n hx hb d_Mod_filtered_116 rfl (lv_at hl 2 rfl) ?_
  refine lv_if_ne (tgt := 124) hx hb d_Mod_filtered_117 (by decide) (fun c19 => ?_) (fun c19 => ?_)
  · have h := h.1 c19
    refine lv_iload_n hx hb d_Mod_filtered_124 rfl (lv_at hl 2 rfl) ?_
    refine lv_iconst (v := 1) hx hb d_Mod_filtered_125 (by decide) ?_
    refine lv_icmp_ne (tgt := 134) hx hb d_Mod_filtered_126 (by decide) (fun c20 => ?_) (fun c20 => ?_)
    · have h := h.1 c20
      refine lv_iload_n hx hb d_Mod_filtered_134 rfl (lv_at hl 2 rfl) ?_
      refine lv_iconst (v := 2) hx hb d_Mod_filtered_135 (by decide) ?_
      refine lv_icmp_ne (tgt := 144) hx hb d_Mod_filtered_136 (by decide) (fun c21 => ?_) (fun c21 => ?_)
      · have h := h.1 c21
        refine lv_iload_n hx hb d_Mod_filtered_144 rfl (lv_at hl 2 rfl) ?_
        refine lv_iconst (v := 3) hx hb d_Mod_filtered_145 (by decide) ?_
        refine lv_icmp_ne (tgt := 159) hx hb d_Mod_filtered_146 (by decide) (fun c22 => ?_) (fun c22 => ?_)
        · have h := h.1 c22
          refine lv_iload hx hb d_Mod_filtered_159 (lv_at hl 0 rfl) ?_
          exact s_Mod_filtered_161 (a := a) (n := n) (tb := tb) E hr hlk  t0 _ _ ls hw (lv_sub hl [1, 3, 4] rfl) h
        · have h := h.2 c22
          refine lv_iload hx hb d_Mod_filtered_149 (lv_at hl 5 rfl) ?_
          refine lv_iload hx hb d_Mod_filtered_151 (lv_at hl 6 rfl) ?_
          refine lv_iadd hx hb d_Mod_filtered_153 ?_
          refine lv_iconst (v := 2) hx hb d_Mod_filtered_154 (by decide) ?_
          refine lv_idiv hx hb d_Mod_filtered_155 (by decide) ?_
          refine lv_goto (tgt := 161) hx hb d_Mod_filtered_156 (by decide) ?_
          exact s_Mod_filtered_161 (a := a) (n := n) (tb := tb) E hr hlk  ((y4 + y5) / 2) _ _ ls hw (lv_sub hl [1, 3, 4] rfl) h
      · have h := h.2 c21
        refine lv_iload hx hb d_Mod_filtered_139 (lv_at hl 6 rfl) ?_
        refine lv_goto (tgt := 161) hx hb d_Mod_filtered_141 (by decide) ?_
        exact s_Mod_filtered_161 (a := a) (n := n) (tb := tb) E hr hlk  y5 _ _ ls hw (lv_sub hl [1, 3, 4] rfl) h
    · have h := h.2 c20
      refine lv_iload hx hb d_Mod_filtered_129 (lv_at hl 5 rfl) ?_
      refine lv_goto (tgt := 161) hx hb d_Mod_filtered_131 (by decide) ?_
      exact s_Mod_filtered_161 (a := a) (n := n) (tb := tb) E hr hlk  y4 _ _ ls hw (lv_sub hl [1, 3, 4] rfl) h
  · have h := h.2 c19
    refine lv_iconst (v := 0) hx hb d_Mod_filtered_120 (by decide) ?_
    refine lv_goto (tgt := 161) hx hb d_Mod_filtered_121 (by decide) ?_
    exact s_Mod_filtered_161 (a := a) (n := n) (tb := tb) E hr hlk  0 _ _ ls hw (lv_sub hl [1, 3, 4] rfl) h
set_option maxHeartbeats 2000000 in
set_option maxRecDepth 20000 in
theorem s_Mod_filtered_90 {l : Launch} {dC : Nat → ClassId} {dI : Nat → Nat → Nat} {cI : ClassId} {tb a n : Nat → Nat} {p : Program} {e : Env} {s : State} {m : MethodId} {args : Array Value} {below : List Frame} {meth : Method} {c : Code} {A : Nat → Prop} (E : CallFix p m c prog_9_method_9_code 10 s args TBL "PicturePackerModel") (hr : meth.sig.returnType = some .int) (hlk : meth.locks = false) {Mod_thrown : Int32} {Mod_width : Int32} {Mod_height : Int32} {Mod_many : Int32} {Mod_size : Int32} {Mod_bit : Int32} {Mod_single : Int32} {Mod_runs : Int32} {Mod_longest : Int32} {mc : Nat → Int32} {x1 : Int32} {x2 : Int32} {x3 : Int32} {post : Int32 → Unit → Prop} : ∀ (y4 : Int32) (y5 : Int32) (y6 : Int32) (y7 : Int32) (H : Heap) (locs : List Loc) (ls : Array Slot), Wl classes dC dI cI tb A s H locs [e_Mod a Mod_thrown Mod_width Mod_height Mod_many Mod_size Mod_bit Mod_single Mod_runs Mod_longest, e_ar a n cI 15 mc] → lv_has ls 10 [(0, .ref (a 7)), (1, .int x1), (2, .int x2), (3, .int x3), (4, .int y4), (5, .int y5), (6, .int y6), (7, .int y7)] → wp_Mod_filtered_90 n mc x1 x2 x3 post y4 y5 y6 y7 → W p l e ({ frames := 1, cells := 0, slots := 0, locals := 22 }) s m args below meth c H locs 0 0 (MQ below (va_Qi post (fun u => End0 classes dC dI cI A [e_Mod a Mod_thrown Mod_width Mod_height Mod_many Mod_size Mod_bit Mod_single Mod_runs Mod_longest, e_ar a n cI 15 mc]) A) args s 0 0 A) (F0 m 90 ls []) := by
  obtain ⟨hx, hb, hml, hown, hts⟩ := id E
  intro y4 y5 y6 y7 H locs ls hw hl h
  unfold wp_Mod_filtered_90 at h
  refine lv_iload hx hb d_Mod_filtered_90 (lv_at hl 7 rfl) ?_
  refine lv_iload hx hb d_Mod_filtered_92 (lv_at hl 5 rfl) ?_
  refine kSi (y := y_Mod_far) (ws' := fun _ => [e_Mod a Mod_thrown Mod_width Mod_height Mod_many Mod_size Mod_bit Mod_single Mod_runs Mod_longest, e_ar a n cI 15 mc]) (wr := [e_Mod a Mod_thrown Mod_width Mod_height Mod_many Mod_size Mod_bit Mod_single Mod_runs Mod_longest, e_ar a n cI 15 mc]) (As := [.int y7, .int y5]) (rest := []) E hw (c_Mod_far (l := l) (dC := dC) (dI := dI) (cI := cI) (tb := tb) (a := a) (n := n)  (x0 := y7) (x1 := y5) h) tw509 tw510 tw44 tw511 2 (by decide) ⟨Nat.le_of_ble_eq_true rfl, Nat.le_of_ble_eq_true rfl⟩ ⟨Nat.le_of_ble_eq_true rfl, Nat.le_of_ble_eq_true rfl⟩ ⟨rfl, rfl⟩ [] [0, 1] [0, 1] rfl rfl rfl rfl (by decide) rfl (fun _ => rfl) hl.1 rfl rfl (Nat.le_of_ble_eq_true rfl) d_Mod_filtered_94 (fun r15 u14 H locs h hw => ?_)
  refine lv_iload hx hb d_Mod_filtered_97 (lv_at hl 7 rfl) ?_
  refine lv_iload hx hb d_Mod_filtered_99 (lv_at hl 6 rfl) ?_
  refine kSi (y := y_Mod_far) (ws' := fun _ => [e_Mod a Mod_thrown Mod_width Mod_height Mod_many Mod_size Mod_bit Mod_single Mod_runs Mod_longest, e_ar a n cI 15 mc]) (wr := [e_Mod a Mod_thrown Mod_width Mod_height Mod_many Mod_size Mod_bit Mod_single Mod_runs Mod_longest, e_ar a n cI 15 mc]) (As := [.int y7, .int y6]) (rest := [.int r15]) E hw (c_Mod_far (l := l) (dC := dC) (dI := dI) (cI := cI) (tb := tb) (a := a) (n := n)  (x0 := y7) (x1 := y6) h) tw509 tw510 tw44 tw511 2 (by decide) ⟨Nat.le_of_ble_eq_true rfl, Nat.le_of_ble_eq_true rfl⟩ ⟨Nat.le_of_ble_eq_true rfl, Nat.le_of_ble_eq_true rfl⟩ ⟨rfl, rfl⟩ [] [0, 1] [0, 1] rfl rfl rfl rfl (by decide) rfl (fun _ => rfl) hl.1 rfl rfl (Nat.le_of_ble_eq_true rfl) d_Mod_filtered_101 (fun r17 u16 H locs h hw => ?_)
  refine lv_icmp_gt (tgt := 112) hx hb d_Mod_filtered_104 (by decide) (fun c18 => ?_) (fun c18 => ?_)
  · have h := h.1 c18
    refine lv_iload hx hb d_Mod_filtered_112 (lv_at hl 6 rfl) ?_
    exact s_Mod_filtered_114 (a := a) (n := n) (tb := tb) E hr hlk  y6 y4 y5 _ _ ls hw (lv_sub hl [0, 1, 2, 3, 4, 5] rfl) h
  · have h := h.2 c18
    refine lv_iload hx hb d_Mod_filtered_107 (lv_at hl 5 rfl) ?_
    refine lv_goto (tgt := 114) hx hb d_Mod_filtered_109 (by decide) ?_
    exact s_Mod_filtered_114 (a := a) (n := n) (tb := tb) E hr hlk  y5 y4 y5 _ _ ls hw (lv_sub hl [0, 1, 2, 3, 4, 5] rfl) h
set_option maxHeartbeats 2000000 in
set_option maxRecDepth 20000 in
theorem s_Mod_filtered_39 {l : Launch} {dC : Nat → ClassId} {dI : Nat → Nat → Nat} {cI : ClassId} {tb a n : Nat → Nat} {p : Program} {e : Env} {s : State} {m : MethodId} {args : Array Value} {below : List Frame} {meth : Method} {c : Code} {A : Nat → Prop} (E : CallFix p m c prog_9_method_9_code 10 s args TBL "PicturePackerModel") (hr : meth.sig.returnType = some .int) (hlk : meth.locks = false) {Mod_thrown : Int32} {Mod_width : Int32} {Mod_height : Int32} {Mod_many : Int32} {Mod_size : Int32} {Mod_bit : Int32} {Mod_single : Int32} {Mod_runs : Int32} {Mod_longest : Int32} {mc : Nat → Int32} {x1 : Int32} {x2 : Int32} {x3 : Int32} {post : Int32 → Unit → Prop} : ∀ (t0 : Int32) (y4 : Int32) (y5 : Int32) (H : Heap) (locs : List Loc) (ls : Array Slot), Wl classes dC dI cI tb A s H locs [e_Mod a Mod_thrown Mod_width Mod_height Mod_many Mod_size Mod_bit Mod_single Mod_runs Mod_longest, e_ar a n cI 15 mc] → lv_has ls 10 [(0, .ref (a 7)), (1, .int x1), (2, .int x2), (3, .int x3), (4, .int y4), (5, .int y5)] → wp_Mod_filtered_39 n mc x1 x2 x3 post t0 y4 y5 → W p l e ({ frames := 1, cells := 0, slots := 0, locals := 22 }) s m args below meth c H locs 0 0 (MQ below (va_Qi post (fun u => End0 classes dC dI cI A [e_Mod a Mod_thrown Mod_width Mod_height Mod_many Mod_size Mod_bit Mod_single Mod_runs Mod_longest, e_ar a n cI 15 mc]) A) args s 0 0 A) (F0 m 39 ls [.int t0]) := by
  obtain ⟨hx, hb, hml, hown, hts⟩ := id E
  intro t0 y4 y5 H locs ls hw hl h
  unfold wp_Mod_filtered_39 at h
  refine lv_istore (lv' := [(6, .int t0), (0, .ref (a 7)), (1, .int x1), (2, .int x2), (3, .int x3), (4, .int y4), (5, .int y5)]) hx hb d_Mod_filtered_39 hl (by decide) rfl (fun ls hl => ?_)
  refine lv_iload hx hb d_Mod_filtered_41 (lv_at hl 5 rfl) ?_
  refine lv_iload hx hb d_Mod_filtered_43 (lv_at hl 6 rfl) ?_
  refine lv_iadd hx hb d_Mod_filtered_45 ?_
  refine lv_iload hx hb d_Mod_filtered_46 (lv_at hl 0 rfl) ?_
  refine lv_isub hx hb d_Mod_filtered_48 ?_
  refine lv_topi (fun z8 ez8 => ?_)
  have h := h z8 ez8
  refine lv_istore (lv' := [(7, .int z8), (6, .int t0), (0, .ref (a 7)), (1, .int x1), (2, .int x2), (3, .int x3), (4, .int y4), (5, .int y5)]) hx hb d_Mod_filtered_49 hl (by decide) rfl (fun ls hl => ?_)
  refine lv_iload hx hb d_Mod_filtered_51 (lv_at hl 0 rfl) ?_
  refine lv_iload hx hb d_Mod_filtered_53 (lv_at hl 6 rfl) ?_
  refine kSi (y := y_Mod_far) (ws' := fun _ => [e_Mod a Mod_thrown Mod_width Mod_height Mod_many Mod_size Mod_bit Mod_single Mod_runs Mod_longest, e_ar a n cI 15 mc]) (wr := [e_Mod a Mod_thrown Mod_width Mod_height Mod_many Mod_size Mod_bit Mod_single Mod_runs Mod_longest, e_ar a n cI 15 mc]) (As := [.int z8, .int y4]) (rest := []) E hw (c_Mod_far (l := l) (dC := dC) (dI := dI) (cI := cI) (tb := tb) (a := a) (n := n)  (x0 := z8) (x1 := y4) h) tw509 tw510 tw44 tw511 2 (by decide) ⟨Nat.le_of_ble_eq_true rfl, Nat.le_of_ble_eq_true rfl⟩ ⟨Nat.le_of_ble_eq_true rfl, Nat.le_of_ble_eq_true rfl⟩ ⟨rfl, rfl⟩ [] [0, 1] [0, 1] rfl rfl rfl rfl (by decide) rfl (fun _ => rfl) hl.1 rfl rfl (Nat.le_of_ble_eq_true rfl) d_Mod_filtered_55 (fun r10 u9 H locs h hw => ?_)
  refine lv_iload hx hb d_Mod_filtered_58 (lv_at hl 0 rfl) ?_
  refine lv_iload hx hb d_Mod_filtered_60 (lv_at hl 7 rfl) ?_
  refine kSi (y := y_Mod_far) (ws' := fun _ => [e_Mod a Mod_thrown Mod_width Mod_height Mod_many Mod_size Mod_bit Mod_single Mod_runs Mod_longest, e_ar a n cI 15 mc]) (wr := [e_Mod a Mod_thrown Mod_width Mod_height Mod_many Mod_size Mod_bit Mod_single Mod_runs Mod_longest, e_ar a n cI 15 mc]) (As := [.int z8, .int y5]) (rest := [.int r10]) E hw (c_Mod_far (l := l) (dC := dC) (dI := dI) (cI := cI) (tb := tb) (a := a) (n := n)  (x0 := z8) (x1 := y5) h) tw509 tw510 tw44 tw511 2 (by decide) ⟨Nat.le_of_ble_eq_true rfl, Nat.le_of_ble_eq_true rfl⟩ ⟨Nat.le_of_ble_eq_true rfl, Nat.le_of_ble_eq_true rfl⟩ ⟨rfl, rfl⟩ [] [0, 1] [0, 1] rfl rfl rfl rfl (by decide) rfl (fun _ => rfl) hl.1 rfl rfl (Nat.le_of_ble_eq_true rfl) d_Mod_filtered_62 (fun r12 u11 H locs h hw => ?_)
  refine lv_icmp_gt (tgt := 90) hx hb d_Mod_filtered_65 (by decide) (fun c13 => ?_) (fun c13 => ?_)
  · have h := h.1 c13
    exact s_Mod_filtered_90 (a := a) (n := n) (tb := tb) E hr hlk  y4 y5 t0 z8 _ _ ls hw (lv_sub hl [2, 3, 4, 5, 6, 7, 1, 0] rfl) h
  · have h := h.2 c13
    refine lv_iload hx hb d_Mod_filtered_68 (lv_at hl 0 rfl) ?_
    refine lv_iload hx hb d_Mod_filtered_70 (lv_at hl 6 rfl) ?_
    refine kSi (y := y_Mod_far) (ws' := fun _ => [e_Mod a Mod_thrown Mod_width Mod_height Mod_many Mod_size Mod_bit Mod_single Mod_runs Mod_longest, e_ar a n cI 15 mc]) (wr := [e_Mod a Mod_thrown Mod_width Mod_height Mod_many Mod_size Mod_bit Mod_single Mod_runs Mod_longest, e_ar a n cI 15 mc]) (As := [.int z8, .int y4]) (rest := []) E hw (c_Mod_far (l := l) (dC := dC) (dI := dI) (cI := cI) (tb := tb) (a := a) (n := n)  (x0 := z8) (x1 := y4) h) tw509 tw510 tw44 tw511 2 (by decide) ⟨Nat.le_of_ble_eq_true rfl, Nat.le_of_ble_eq_true rfl⟩ ⟨Nat.le_of_ble_eq_true rfl, Nat.le_of_ble_eq_true rfl⟩ ⟨rfl, rfl⟩ [] [0, 1] [0, 1] rfl rfl rfl rfl (by decide) rfl (fun _ => rfl) hl.1 rfl rfl (Nat.le_of_ble_eq_true rfl) d_Mod_filtered_72 (fun r26 u25 H locs h hw => ?_)
    refine lv_iload hx hb d_Mod_filtered_75 (lv_at hl 0 rfl) ?_
    refine lv_iload hx hb d_Mod_filtered_77 (lv_at hl 1 rfl) ?_
    refine kSi (y := y_Mod_far) (ws' := fun _ => [e_Mod a Mod_thrown Mod_width Mod_height Mod_many Mod_size Mod_bit Mod_single Mod_runs Mod_longest, e_ar a n cI 15 mc]) (wr := [e_Mod a Mod_thrown Mod_width Mod_height Mod_many Mod_size Mod_bit Mod_single Mod_runs Mod_longest, e_ar a n cI 15 mc]) (As := [.int z8, .int t0]) (rest := [.int r26]) E hw (c_Mod_far (l := l) (dC := dC) (dI := dI) (cI := cI) (tb := tb) (a := a) (n := n)  (x0 := z8) (x1 := t0) h) tw509 tw510 tw44 tw511 2 (by decide) ⟨Nat.le_of_ble_eq_true rfl, Nat.le_of_ble_eq_true rfl⟩ ⟨Nat.le_of_ble_eq_true rfl, Nat.le_of_ble_eq_true rfl⟩ ⟨rfl, rfl⟩ [] [0, 1] [0, 1] rfl rfl rfl rfl (by decide) rfl (fun _ => rfl) hl.1 rfl rfl (Nat.le_of_ble_eq_true rfl) d_Mod_filtered_79 (fun r28 u27 H locs h hw => ?_)
    refine lv_icmp_gt (tgt := 90) hx hb d_Mod_filtered_82 (by decide) (fun c29 => ?_) (fun c29 => ?_)
    · have h := h.1 c29
      exact s_Mod_filtered_90 (a := a) (n := n) (tb := tb) E hr hlk  y4 y5 t0 z8 _ _ ls hw (lv_sub hl [2, 3, 4, 5, 6, 7, 1, 0] rfl) h
    · have h := h.2 c29
      refine lv_iload hx hb d_Mod_filtered_85 (lv_at hl 6 rfl) ?_
      refine lv_goto (tgt := 114) hx hb d_Mod_filtered_87 (by decide) ?_
      exact s_Mod_filtered_114 (a := a) (n := n) (tb := tb) E hr hlk  y4 y4 y5 _ _ ls hw (lv_sub hl [2, 3, 4, 5, 6, 7] rfl) h
set_option maxHeartbeats 2000000 in
set_option maxRecDepth 20000 in
theorem c_Mod_filtered {l : Launch} {dC : Nat → ClassId} {dI : Nat → Nat → Nat} {cI : ClassId} {tb a n : Nat → Nat} {Mod_thrown : Int32} {Mod_width : Int32} {Mod_height : Int32} {Mod_many : Int32} {Mod_size : Int32} {Mod_bit : Int32} {Mod_single : Int32} {Mod_runs : Int32} {Mod_longest : Int32} {mc : Nat → Int32} {x1 : Int32} {x2 : Int32} {x3 : Int32} {post : Int32 → Unit → Prop} (h : wp_Mod_filtered n mc x1 x2 x3 post) : CtI classes dC dI cI tb l y_Mod_filtered prog_9_method_9_code 10 .int ({ frames := 1, cells := 0, slots := 0, locals := 22 }) [.ref (a 7), .int x1, .int x2, .int x3] [e_Mod a Mod_thrown Mod_width Mod_height Mod_many Mod_size Mod_bit Mod_single Mod_runs Mod_longest, e_ar a n cI 15 mc] (Unit) (fun _ => [e_Mod a Mod_thrown Mod_width Mod_height Mod_many Mod_size Mod_bit Mod_single Mod_runs Mod_longest, e_ar a n cI 15 mc]) post := by
  refine startI (by decide) (Nat.le_of_ble_eq_true rfl) ?_
  intro p e s m below meth c ls E hr hlk hnm hl hw
  have hl : lv_has ls 10 [(0, .ref (a 7)), (1, .int x1), (2, .int x2), (3, .int x3)] := hl
  generalize va_A [e_Mod a Mod_thrown Mod_width Mod_height Mod_many Mod_size Mod_bit Mod_single Mod_runs Mod_longest, e_ar a n cI 15 mc] s.heap.size = A at hw ⊢
  obtain ⟨hx, hb, hml, hown, hts⟩ := id E
  unfold wp_Mod_filtered at h
  refine lv_aload_n hx hb d_Mod_filtered_0 rfl (lv_at hl 0 rfl) ?_
  refine lv_iload_n hx hb d_Mod_filtered_1 rfl (lv_at hl 2 rfl) ?_
  refine lv_iconst (v := 3) hx hb d_Mod_filtered_2 (by decide) ?_
  refine lv_isub hx hb d_Mod_filtered_3 ?_
  refine lv_iload_n hx hb d_Mod_filtered_4 rfl (lv_at hl 3 rfl) ?_
  refine kVi (y := y_Mod_byteOf) (ws' := fun _ => [e_Mod a Mod_thrown Mod_width Mod_height Mod_many Mod_size Mod_bit Mod_single Mod_runs Mod_longest, e_ar a n cI 15 mc]) (wr := []) (As := [.int (x2 - 3), .int x3]) (rest := []) E hw (c_Mod_byteOf (l := l) (dC := dC) (dI := dI) (cI := cI) (tb := tb) (a := a) (n := n) (Mod_thrown := Mod_thrown) (Mod_width := Mod_width) (Mod_height := Mod_height) (Mod_many := Mod_many) (Mod_size := Mod_size) (Mod_bit := Mod_bit) (Mod_single := Mod_single) (Mod_runs := Mod_runs) (Mod_longest := Mod_longest) (mc := mc) (x1 := x2 - 3) (x2 := x3) h) tw505 tw507 tw20 tw44 tw508 2 (by decide) ⟨Nat.le_of_ble_eq_true rfl, Nat.le_of_ble_eq_true rfl⟩ ⟨Nat.le_of_ble_eq_true rfl, Nat.le_of_ble_eq_true rfl⟩ ⟨rfl, rfl⟩ rfl rfl 0 rfl [0, 1] [] [0, 1] rfl rfl rfl rfl (by decide) rfl (fun _ => rfl) hl.1 rfl rfl (Nat.le_of_ble_eq_true rfl) d_Mod_filtered_5 (fun r2 u1 H locs h hw => ?_)
  refine lv_istore (lv' := [(4, .int r2), (0, .ref (a 7)), (1, .int x1), (2, .int x2), (3, .int x3)]) hx hb d_Mod_filtered_8 hl (by decide) rfl (fun ls hl => ?_)
  refine lv_aload_n hx hb d_Mod_filtered_10 rfl (lv_at hl 1 rfl) ?_
  refine lv_iload_n hx hb d_Mod_filtered_11 rfl (lv_at hl 3 rfl) ?_
  refine lv_iload_n hx hb d_Mod_filtered_12 rfl (lv_at hl 4 rfl) ?_
  refine lv_iconst (v := 1) hx hb d_Mod_filtered_13 (by decide) ?_
  refine lv_isub hx hb d_Mod_filtered_14 ?_
  refine kVi (y := y_Mod_byteOf) (ws' := fun _ => [e_Mod a Mod_thrown Mod_width Mod_height Mod_many Mod_size Mod_bit Mod_single Mod_runs Mod_longest, e_ar a n cI 15 mc]) (wr := []) (As := [.int x2, .int (x3 - 1)]) (rest := []) E hw (c_Mod_byteOf (l := l) (dC := dC) (dI := dI) (cI := cI) (tb := tb) (a := a) (n := n) (Mod_thrown := Mod_thrown) (Mod_width := Mod_width) (Mod_height := Mod_height) (Mod_many := Mod_many) (Mod_size := Mod_size) (Mod_bit := Mod_bit) (Mod_single := Mod_single) (Mod_runs := Mod_runs) (Mod_longest := Mod_longest) (mc := mc) (x1 := x2) (x2 := x3 - 1) h) tw505 tw507 tw20 tw44 tw508 2 (by decide) ⟨Nat.le_of_ble_eq_true rfl, Nat.le_of_ble_eq_true rfl⟩ ⟨Nat.le_of_ble_eq_true rfl, Nat.le_of_ble_eq_true rfl⟩ ⟨rfl, rfl⟩ rfl rfl 0 rfl [0, 1] [] [0, 1] rfl rfl rfl rfl (by decide) rfl (fun _ => rfl) hl.1 rfl rfl (Nat.le_of_ble_eq_true rfl) d_Mod_filtered_15 (fun r4 u3 H locs h hw => ?_)
  refine lv_istore (lv' := [(5, .int r4), (4, .int r2), (0, .ref (a 7)), (1, .int x1), (2, .int x2), (3, .int x3)]) hx hb d_Mod_filtered_18 hl (by decide) rfl (fun ls hl => ?_)
  refine lv_iload_n hx hb d_Mod_filtered_20 rfl (lv_at hl 4 rfl) ?_
  refine lv_iconst (v := 3) hx hb d_Mod_filtered_21 (by decide) ?_
  refine lv_icmp_ge (tgt := 29) hx hb d_Mod_filtered_22 (by decide) (fun c5 => ?_) (fun c5 => ?_)
  · have h := h.1 c5
    refine lv_aload_n hx hb d_Mod_filtered_29 rfl (lv_at hl 2 rfl) ?_
    refine lv_iload_n hx hb d_Mod_filtered_30 rfl (lv_at hl 4 rfl) ?_
    refine lv_iconst (v := 3) hx hb d_Mod_filtered_31 (by decide) ?_
    refine lv_isub hx hb d_Mod_filtered_32 ?_
    refine lv_iload_n hx hb d_Mod_filtered_33 rfl (lv_at hl 5 rfl) ?_
    refine lv_iconst (v := 1) hx hb d_Mod_filtered_34 (by decide) ?_
    refine lv_isub hx hb d_Mod_filtered_35 ?_
    refine kVi (y := y_Mod_byteOf) (ws' := fun _ => [e_Mod a Mod_thrown Mod_width Mod_height Mod_many Mod_size Mod_bit Mod_single Mod_runs Mod_longest, e_ar a n cI 15 mc]) (wr := []) (As := [.int (x2 - 3), .int (x3 - 1)]) (rest := []) E hw (c_Mod_byteOf (l := l) (dC := dC) (dI := dI) (cI := cI) (tb := tb) (a := a) (n := n) (Mod_thrown := Mod_thrown) (Mod_width := Mod_width) (Mod_height := Mod_height) (Mod_many := Mod_many) (Mod_size := Mod_size) (Mod_bit := Mod_bit) (Mod_single := Mod_single) (Mod_runs := Mod_runs) (Mod_longest := Mod_longest) (mc := mc) (x1 := x2 - 3) (x2 := x3 - 1) h) tw505 tw507 tw20 tw44 tw508 2 (by decide) ⟨Nat.le_of_ble_eq_true rfl, Nat.le_of_ble_eq_true rfl⟩ ⟨Nat.le_of_ble_eq_true rfl, Nat.le_of_ble_eq_true rfl⟩ ⟨rfl, rfl⟩ rfl rfl 0 rfl [0, 1] [] [0, 1] rfl rfl rfl rfl (by decide) rfl (fun _ => rfl) hl.1 rfl rfl (Nat.le_of_ble_eq_true rfl) d_Mod_filtered_36 (fun r7 u6 H locs h hw => ?_)
    exact s_Mod_filtered_39 (a := a) (n := n) (tb := tb) E hr hlk  r7 r2 r4 _ _ ls hw (lv_sub hl [2, 3, 4, 5, 1, 0] rfl) h
  · have h := h.2 c5
    refine lv_iconst (v := 0) hx hb d_Mod_filtered_25 (by decide) ?_
    refine lv_goto (tgt := 39) hx hb d_Mod_filtered_26 (by decide) ?_
    exact s_Mod_filtered_39 (a := a) (n := n) (tb := tb) E hr hlk  0 r2 r4 _ _ ls hw (lv_sub hl [2, 3, 4, 5, 1, 0] rfl) h
-- PicturePackerModel.sumOf(II)I
theorem d_Mod_sumOf_0 : decode prog_9_method_10_code 0 = .ok (.iconst 0, 1) := by decide +kernel
theorem d_Mod_sumOf_1 : decode prog_9_method_10_code 1 = .ok (.istore_n 3, 1) := by decide +kernel
theorem d_Mod_sumOf_2 : decode prog_9_method_10_code 2 = .ok (.iconst 0, 1) := by decide +kernel
theorem d_Mod_sumOf_3 : decode prog_9_method_10_code 3 = .ok (.istore 4, 2) := by decide +kernel
theorem d_Mod_sumOf_5 : decode prog_9_method_10_code 5 = .ok (.iload 4, 2) := by decide +kernel
theorem d_Mod_sumOf_7 : decode prog_9_method_10_code 7 = .ok (.iconst 3, 1) := by decide +kernel
theorem d_Mod_sumOf_8 : decode prog_9_method_10_code 8 = .ok (.aload_n 0, 1) := by decide +kernel
theorem d_Mod_sumOf_9 : decode prog_9_method_10_code 9 = .ok (.getfield 19, 3) := by decide +kernel
theorem d_Mod_sumOf_12 : decode prog_9_method_10_code 12 = .ok (.imul, 1) := by decide +kernel
theorem d_Mod_sumOf_13 : decode prog_9_method_10_code 13 = .ok (.if_icmp .ge 44, 3) := by decide +kernel
theorem d_Mod_sumOf_16 : decode prog_9_method_10_code 16 = .ok (.aload_n 0, 1) := by decide +kernel
theorem d_Mod_sumOf_17 : decode prog_9_method_10_code 17 = .ok (.iload_n 1, 1) := by decide +kernel
theorem d_Mod_sumOf_18 : decode prog_9_method_10_code 18 = .ok (.iload 4, 2) := by decide +kernel
theorem d_Mod_sumOf_20 : decode prog_9_method_10_code 20 = .ok (.iload_n 2, 1) := by decide +kernel
theorem d_Mod_sumOf_21 : decode prog_9_method_10_code 21 = .ok (.invokevirtual 41, 3) := by decide +kernel
theorem d_Mod_sumOf_24 : decode prog_9_method_10_code 24 = .ok (.istore 5, 2) := by decide +kernel
theorem d_Mod_sumOf_26 : decode prog_9_method_10_code 26 = .ok (.iload_n 3, 1) := by decide +kernel
theorem d_Mod_sumOf_27 : decode prog_9_method_10_code 27 = .ok (.iload 5, 2) := by decide +kernel
theorem d_Mod_sumOf_29 : decode prog_9_method_10_code 29 = .ok (.sipush 256, 3) := by decide +kernel
theorem d_Mod_sumOf_32 : decode prog_9_method_10_code 32 = .ok (.iload 5, 2) := by decide +kernel
theorem d_Mod_sumOf_34 : decode prog_9_method_10_code 34 = .ok (.isub, 1) := by decide +kernel
theorem d_Mod_sumOf_35 : decode prog_9_method_10_code 35 = .ok (.if_icmp .ge 8, 3) := by decide +kernel
theorem d_Mod_sumOf_38 : decode prog_9_method_10_code 38 = .ok (.iload 5, 2) := by decide +kernel
theorem d_Mod_sumOf_40 : decode prog_9_method_10_code 40 = .ok (.goto 9, 3) := by decide +kernel
theorem d_Mod_sumOf_43 : decode prog_9_method_10_code 43 = .ok (.sipush 256, 3) := by decide +kernel
theorem d_Mod_sumOf_46 : decode prog_9_method_10_code 46 = .ok (.iload 5, 2) := by decide +kernel
theorem d_Mod_sumOf_48 : decode prog_9_method_10_code 48 = .ok (.isub, 1) := by decide +kernel
theorem d_Mod_sumOf_49 : decode prog_9_method_10_code 49 = .ok (.iadd, 1) := by decide +kernel
theorem d_Mod_sumOf_50 : decode prog_9_method_10_code 50 = .ok (.istore_n 3, 1) := by decide +kernel
theorem d_Mod_sumOf_51 : decode prog_9_method_10_code 51 = .ok (.iinc 4 1, 3) := by decide +kernel
theorem d_Mod_sumOf_54 : decode prog_9_method_10_code 54 = .ok (.goto (-49), 3) := by decide +kernel
theorem d_Mod_sumOf_57 : decode prog_9_method_10_code 57 = .ok (.iload_n 3, 1) := by decide +kernel
theorem d_Mod_sumOf_58 : decode prog_9_method_10_code 58 = .ok (.ireturn, 1) := by decide +kernel
abbrev y_Mod_sumOf : MethodName := ⟨"PicturePackerModel", "sumOf", "(II)I"⟩
def wp_Mod_sumOf_5 (n : Nat → Nat) (Mod_width : Int32) (mc : Nat → Int32) (x1 : Int32) (x2 : Int32) (post : Int32 → Unit → Prop) : Nat → Int32 → Int32 → Prop
  | 0 => fun _ _ => False
  | N + 1 => fun y3 y4 => ((3 * Mod_width : Int32) ≤ y4 → (post y3 ())) ∧ (¬ ((3 * Mod_width : Int32) ≤ y4) → (wp_Mod_filtered n mc x1 y4 x2 (fun r3 _ => ((256 - r3 : Int32) ≤ r3 → (∀ z5 : Int32, z5 = (y3 + (256 - r3)) → (∀ z6 : Int32, z6 = (y4 + 1) → (wp_Mod_sumOf_5 n Mod_width mc x1 x2 post N z5 z6)))) ∧ (¬ ((256 - r3 : Int32) ≤ r3) → (∀ z7 : Int32, z7 = (y3 + r3) → (∀ z8 : Int32, z8 = (y4 + 1) → (wp_Mod_sumOf_5 n Mod_width mc x1 x2 post N z7 z8)))))))
def wp_Mod_sumOf (n : Nat → Nat) (Mod_width : Int32) (mc : Nat → Int32) (x1 : Int32) (x2 : Int32) (post : Int32 → Unit → Prop) : Prop := ∃ N9 : Nat, wp_Mod_sumOf_5 n Mod_width mc x1 x2 post N9 0 0
set_option maxHeartbeats 2000000 in
set_option maxRecDepth 20000 in
theorem s_Mod_sumOf_5 {l : Launch} {dC : Nat → ClassId} {dI : Nat → Nat → Nat} {cI : ClassId} {tb a n : Nat → Nat} {p : Program} {e : Env} {s : State} {m : MethodId} {args : Array Value} {below : List Frame} {meth : Method} {c : Code} {A : Nat → Prop} (E : CallFix p m c prog_9_method_10_code 6 s args TBL "PicturePackerModel") (hr : meth.sig.returnType = some .int) (hlk : meth.locks = false) {Mod_thrown : Int32} {Mod_width : Int32} {Mod_height : Int32} {Mod_many : Int32} {Mod_size : Int32} {Mod_bit : Int32} {Mod_single : Int32} {Mod_runs : Int32} {Mod_longest : Int32} {mc : Nat → Int32} {x1 : Int32} {x2 : Int32} {post : Int32 → Unit → Prop} : ∀ (N : Nat) (y3 : Int32) (y4 : Int32) (H : Heap) (locs : List Loc) (ls : Array Slot), Wl classes dC dI cI tb A s H locs [e_Mod a Mod_thrown Mod_width Mod_height Mod_many Mod_size Mod_bit Mod_single Mod_runs Mod_longest, e_ar a n cI 15 mc] → lv_has ls 6 [(0, .ref (a 7)), (1, .int x1), (2, .int x2), (3, .int y3), (4, .int y4)] → wp_Mod_sumOf_5 n Mod_width mc x1 x2 post N y3 y4 → W p l e ({ frames := 2, cells := 0, slots := 0, locals := 51 }) s m args below meth c H locs 0 0 (MQ below (va_Qi post (fun u => End0 classes dC dI cI A [e_Mod a Mod_thrown Mod_width Mod_height Mod_many Mod_size Mod_bit Mod_single Mod_runs Mod_longest, e_ar a n cI 15 mc]) A) args s 0 0 A) (F0 m 5 ls []) := by
  obtain ⟨hx, hb, hml, hown, hts⟩ := id E
  intro N
  induction N with
  | zero =>
    intro _ _ H locs ls hw hl h
    exact absurd h id
  | succ N ih =>
    intro y3 y4 H locs ls hw hl h
    unfold wp_Mod_sumOf_5 at h
    refine lv_iload hx hb d_Mod_sumOf_5 (lv_at hl 4 rfl) ?_
    refine lv_iconst (v := 3) hx hb d_Mod_sumOf_7 (by decide) ?_
    refine lv_aload_n hx hb d_Mod_sumOf_8 rfl (lv_at hl 0 rfl) ?_
    refine kget (v := .int Mod_width) (T := F_Mod) E hw in_Mod rfl 0 1 rfl (by decide) tw436 rfl d_Mod_sumOf_9 ?_
    refine lv_imul hx hb d_Mod_sumOf_12 ?_
    refine lv_icmp_ge (tgt := 57) hx hb d_Mod_sumOf_13 (by decide) (fun c1 => ?_) (fun c1 => ?_)
    · have h := h.1 c1
      refine lv_iload_n hx hb d_Mod_sumOf_57 rfl (lv_at hl 3 rfl) ?_
      exact retI (out := fun u => [e_Mod a Mod_thrown Mod_width Mod_height Mod_many Mod_size Mod_bit Mod_single Mod_runs Mod_longest, e_ar a n cI 15 mc]) (u := ()) E hr hlk rfl hw h d_Mod_sumOf_58
    · have h := h.2 c1
      refine lv_aload_n hx hb d_Mod_sumOf_16 rfl (lv_at hl 0 rfl) ?_
      refine lv_iload_n hx hb d_Mod_sumOf_17 rfl (lv_at hl 1 rfl) ?_
      refine lv_iload hx hb d_Mod_sumOf_18 (lv_at hl 4 rfl) ?_
      refine lv_iload_n hx hb d_Mod_sumOf_20 rfl (lv_at hl 2 rfl) ?_
      refine kVi (y := y_Mod_filtered) (ws' := fun _ => [e_Mod a Mod_thrown Mod_width Mod_height Mod_many Mod_size Mod_bit Mod_single Mod_runs Mod_longest, e_ar a n cI 15 mc]) (wr := []) (As := [.int x1, .int y4, .int x2]) (rest := []) E hw (c_Mod_filtered (l := l) (dC := dC) (dI := dI) (cI := cI) (tb := tb) (a := a) (n := n) (Mod_thrown := Mod_thrown) (Mod_width := Mod_width) (Mod_height := Mod_height) (Mod_many := Mod_many) (Mod_size := Mod_size) (Mod_bit := Mod_bit) (Mod_single := Mod_single) (Mod_runs := Mod_runs) (Mod_longest := Mod_longest) (mc := mc) (x1 := x1) (x2 := y4) (x3 := x2) h) tw501 tw503 tw19 tw44 tw504 3 (by decide) ⟨Nat.le_of_ble_eq_true rfl, Nat.le_of_ble_eq_true rfl⟩ ⟨Nat.le_of_ble_eq_true rfl, Nat.le_of_ble_eq_true rfl⟩ ⟨rfl, rfl⟩ rfl rfl 0 rfl [0, 1] [] [0, 1] rfl rfl rfl rfl (by decide) rfl (fun _ => rfl) hl.1 rfl rfl (Nat.le_of_ble_eq_true rfl) d_Mod_sumOf_21 (fun r3 u2 H locs h hw => ?_)
      refine lv_istore (lv' := [(5, .int r3), (0, .ref (a 7)), (1, .int x1), (2, .int x2), (3, .int y3), (4, .int y4)]) hx hb d_Mod_sumOf_24 hl (by decide) rfl (fun ls hl => ?_)
      refine lv_iload_n hx hb d_Mod_sumOf_26 rfl (lv_at hl 4 rfl) ?_
      refine lv_iload hx hb d_Mod_sumOf_27 (lv_at hl 0 rfl) ?_
      refine lv_sipush (v := 256) hx hb d_Mod_sumOf_29 (by decide) ?_
      refine lv_iload hx hb d_Mod_sumOf_32 (lv_at hl 0 rfl) ?_
      refine lv_isub hx hb d_Mod_sumOf_34 ?_
      refine lv_icmp_ge (tgt := 43) hx hb d_Mod_sumOf_35 (by decide) (fun c4 => ?_) (fun c4 => ?_)
      · have h := h.1 c4
        refine lv_sipush (v := 256) hx hb d_Mod_sumOf_43 (by decide) ?_
        refine lv_iload hx hb d_Mod_sumOf_46 (lv_at hl 0 rfl) ?_
        refine lv_isub hx hb d_Mod_sumOf_48 ?_
        refine lv_iadd hx hb d_Mod_sumOf_49 ?_
        refine lv_topi (fun z5 ez5 => ?_)
        have h := h z5 ez5
        refine lv_istore_n (lv' := [(3, .int z5), (5, .int r3), (0, .ref (a 7)), (1, .int x1), (2, .int x2), (4, .int y4)]) hx hb d_Mod_sumOf_50 rfl hl (by decide) rfl (fun ls hl => ?_)
        obtain ⟨z6, ez6⟩ : ∃ z : Int32, z = y4 + 1 := ⟨_, rfl⟩
        have h := h z6 ez6
        refine lv_iinc (v := z6) (lv' := [(4, .int z6), (3, .int z5), (5, .int r3), (0, .ref (a 7)), (1, .int x1), (2, .int x2)]) hx hb d_Mod_sumOf_51 hl (k := 5) rfl (by rw [ez6]; exact congrArg (y4 + ·) (by decide)) (by decide) rfl (fun ls hl => ?_)
        refine lv_goto (tgt := 5) hx hb d_Mod_sumOf_54 (by decide) ?_
        exact ih z5 z6 _ _ ls hw (lv_sub hl [3, 4, 5, 1, 0] rfl) h
      · have h := h.2 c4
        refine lv_iload hx hb d_Mod_sumOf_38 (lv_at hl 0 rfl) ?_
        refine lv_goto (tgt := 49) hx hb d_Mod_sumOf_40 (by decide) ?_
        refine lv_iadd hx hb d_Mod_sumOf_49 ?_
        refine lv_topi (fun z7 ez7 => ?_)
        have h := h z7 ez7
        refine lv_istore_n (lv' := [(3, .int z7), (5, .int r3), (0, .ref (a 7)), (1, .int x1), (2, .int x2), (4, .int y4)]) hx hb d_Mod_sumOf_50 rfl hl (by decide) rfl (fun ls hl => ?_)
        obtain ⟨z8, ez8⟩ : ∃ z : Int32, z = y4 + 1 := ⟨_, rfl⟩
        have h := h z8 ez8
        refine lv_iinc (v := z8) (lv' := [(4, .int z8), (3, .int z7), (5, .int r3), (0, .ref (a 7)), (1, .int x1), (2, .int x2)]) hx hb d_Mod_sumOf_51 hl (k := 5) rfl (by rw [ez8]; exact congrArg (y4 + ·) (by decide)) (by decide) rfl (fun ls hl => ?_)
        refine lv_goto (tgt := 5) hx hb d_Mod_sumOf_54 (by decide) ?_
        exact ih z7 z8 _ _ ls hw (lv_sub hl [3, 4, 5, 1, 0] rfl) h
set_option maxHeartbeats 2000000 in
set_option maxRecDepth 20000 in
theorem c_Mod_sumOf {l : Launch} {dC : Nat → ClassId} {dI : Nat → Nat → Nat} {cI : ClassId} {tb a n : Nat → Nat} {Mod_thrown : Int32} {Mod_width : Int32} {Mod_height : Int32} {Mod_many : Int32} {Mod_size : Int32} {Mod_bit : Int32} {Mod_single : Int32} {Mod_runs : Int32} {Mod_longest : Int32} {mc : Nat → Int32} {x1 : Int32} {x2 : Int32} {post : Int32 → Unit → Prop} (h : wp_Mod_sumOf n Mod_width mc x1 x2 post) : CtI classes dC dI cI tb l y_Mod_sumOf prog_9_method_10_code 6 .int ({ frames := 2, cells := 0, slots := 0, locals := 51 }) [.ref (a 7), .int x1, .int x2] [e_Mod a Mod_thrown Mod_width Mod_height Mod_many Mod_size Mod_bit Mod_single Mod_runs Mod_longest, e_ar a n cI 15 mc] (Unit) (fun _ => [e_Mod a Mod_thrown Mod_width Mod_height Mod_many Mod_size Mod_bit Mod_single Mod_runs Mod_longest, e_ar a n cI 15 mc]) post := by
  refine startI (by decide) (Nat.le_of_ble_eq_true rfl) ?_
  intro p e s m below meth c ls E hr hlk hnm hl hw
  have hl : lv_has ls 6 [(0, .ref (a 7)), (1, .int x1), (2, .int x2)] := hl
  generalize va_A [e_Mod a Mod_thrown Mod_width Mod_height Mod_many Mod_size Mod_bit Mod_single Mod_runs Mod_longest, e_ar a n cI 15 mc] s.heap.size = A at hw ⊢
  obtain ⟨hx, hb, hml, hown, hts⟩ := id E
  unfold wp_Mod_sumOf at h
  refine lv_iconst (v := 0) hx hb d_Mod_sumOf_0 (by decide) ?_
  refine lv_istore_n (lv' := [(3, .int 0), (0, .ref (a 7)), (1, .int x1), (2, .int x2)]) hx hb d_Mod_sumOf_1 rfl hl (by decide) rfl (fun ls hl => ?_)
  refine lv_iconst (v := 0) hx hb d_Mod_sumOf_2 (by decide) ?_
  refine lv_istore (lv' := [(4, .int 0), (3, .int 0), (0, .ref (a 7)), (1, .int x1), (2, .int x2)]) hx hb d_Mod_sumOf_3 hl (by decide) rfl (fun ls hl => ?_)
  obtain ⟨N9, h⟩ := h
  exact s_Mod_sumOf_5 (a := a) (n := n) (tb := tb) E hr hlk  N9 0 0 _ _ ls hw (lv_sub hl [2, 3, 4, 1, 0] rfl) h
-- PicturePackerModel.makeRows()V
theorem d_Mod_makeRows_0 : decode prog_9_method_11_code 0 = .ok (.aload_n 0, 1) := by decide +kernel
theorem d_Mod_makeRows_1 : decode prog_9_method_11_code 1 = .ok (.iconst 0, 1) := by decide +kernel
theorem d_Mod_makeRows_2 : decode prog_9_method_11_code 2 = .ok (.putfield 45, 3) := by decide +kernel
theorem d_Mod_makeRows_5 : decode prog_9_method_11_code 5 = .ok (.iconst 0, 1) := by decide +kernel
theorem d_Mod_makeRows_6 : decode prog_9_method_11_code 6 = .ok (.istore_n 1, 1) := by decide +kernel
theorem d_Mod_makeRows_7 : decode prog_9_method_11_code 7 = .ok (.iload_n 1, 1) := by decide +kernel
theorem d_Mod_makeRows_8 : decode prog_9_method_11_code 8 = .ok (.aload_n 0, 1) := by decide +kernel
theorem d_Mod_makeRows_9 : decode prog_9_method_11_code 9 = .ok (.getfield 23, 3) := by decide +kernel
theorem d_Mod_makeRows_12 : decode prog_9_method_11_code 12 = .ok (.if_icmp .ge 109, 3) := by decide +kernel
theorem d_Mod_makeRows_15 : decode prog_9_method_11_code 15 = .ok (.iconst 0, 1) := by decide +kernel
theorem d_Mod_makeRows_16 : decode prog_9_method_11_code 16 = .ok (.istore_n 2, 1) := by decide +kernel
theorem d_Mod_makeRows_17 : decode prog_9_method_11_code 17 = .ok (.iconst 1, 1) := by decide +kernel
theorem d_Mod_makeRows_18 : decode prog_9_method_11_code 18 = .ok (.istore_n 3, 1) := by decide +kernel
theorem d_Mod_makeRows_19 : decode prog_9_method_11_code 19 = .ok (.iload_n 3, 1) := by decide +kernel
theorem d_Mod_makeRows_20 : decode prog_9_method_11_code 20 = .ok (.iconst 5, 1) := by decide +kernel
theorem d_Mod_makeRows_21 : decode prog_9_method_11_code 21 = .ok (.if_icmp .ge 30, 3) := by decide +kernel
theorem d_Mod_makeRows_24 : decode prog_9_method_11_code 24 = .ok (.aload_n 0, 1) := by decide +kernel
theorem d_Mod_makeRows_25 : decode prog_9_method_11_code 25 = .ok (.iload_n 3, 1) := by decide +kernel
theorem d_Mod_makeRows_26 : decode prog_9_method_11_code 26 = .ok (.iload_n 1, 1) := by decide +kernel
theorem d_Mod_makeRows_27 : decode prog_9_method_11_code 27 = .ok (.invokevirtual 48, 3) := by decide +kernel
theorem d_Mod_makeRows_30 : decode prog_9_method_11_code 30 = .ok (.aload_n 0, 1) := by decide +kernel
theorem d_Mod_makeRows_31 : decode prog_9_method_11_code 31 = .ok (.iload_n 2, 1) := by decide +kernel
theorem d_Mod_makeRows_32 : decode prog_9_method_11_code 32 = .ok (.iload_n 1, 1) := by decide +kernel
theorem d_Mod_makeRows_33 : decode prog_9_method_11_code 33 = .ok (.invokevirtual 48, 3) := by decide +kernel
theorem d_Mod_makeRows_36 : decode prog_9_method_11_code 36 = .ok (.if_icmp .ge 7, 3) := by decide +kernel
theorem d_Mod_makeRows_39 : decode prog_9_method_11_code 39 = .ok (.iload_n 3, 1) := by decide +kernel
theorem d_Mod_makeRows_40 : decode prog_9_method_11_code 40 = .ok (.goto 4, 3) := by decide +kernel
theorem d_Mod_makeRows_43 : decode prog_9_method_11_code 43 = .ok (.iload_n 2, 1) := by decide +kernel
theorem d_Mod_makeRows_44 : decode prog_9_method_11_code 44 = .ok (.istore_n 2, 1) := by decide +kernel
theorem d_Mod_makeRows_45 : decode prog_9_method_11_code 45 = .ok (.iinc 3 1, 3) := by decide +kernel
theorem d_Mod_makeRows_48 : decode prog_9_method_11_code 48 = .ok (.goto (-29), 3) := by decide +kernel
theorem d_Mod_makeRows_51 : decode prog_9_method_11_code 51 = .ok (.aload_n 0, 1) := by decide +kernel
theorem d_Mod_makeRows_52 : decode prog_9_method_11_code 52 = .ok (.getfield 13, 3) := by decide +kernel
theorem d_Mod_makeRows_55 : decode prog_9_method_11_code 55 = .ok (.aload_n 0, 1) := by decide +kernel
theorem d_Mod_makeRows_56 : decode prog_9_method_11_code 56 = .ok (.getfield 45, 3) := by decide +kernel
theorem d_Mod_makeRows_59 : decode prog_9_method_11_code 59 = .ok (.iload_n 2, 1) := by decide +kernel
theorem d_Mod_makeRows_60 : decode prog_9_method_11_code 60 = .ok (.iastore, 1) := by decide +kernel
theorem d_Mod_makeRows_61 : decode prog_9_method_11_code 61 = .ok (.aload_n 0, 1) := by decide +kernel
theorem d_Mod_makeRows_62 : decode prog_9_method_11_code 62 = .ok (.dup, 1) := by decide +kernel
theorem d_Mod_makeRows_63 : decode prog_9_method_11_code 63 = .ok (.getfield 45, 3) := by decide +kernel
theorem d_Mod_makeRows_66 : decode prog_9_method_11_code 66 = .ok (.iconst 1, 1) := by decide +kernel
theorem d_Mod_makeRows_67 : decode prog_9_method_11_code 67 = .ok (.iadd, 1) := by decide +kernel
theorem d_Mod_makeRows_68 : decode prog_9_method_11_code 68 = .ok (.putfield 45, 3) := by decide +kernel
theorem d_Mod_makeRows_71 : decode prog_9_method_11_code 71 = .ok (.iconst 0, 1) := by decide +kernel
theorem d_Mod_makeRows_72 : decode prog_9_method_11_code 72 = .ok (.istore_n 3, 1) := by decide +kernel
theorem d_Mod_makeRows_73 : decode prog_9_method_11_code 73 = .ok (.iload_n 3, 1) := by decide +kernel
theorem d_Mod_makeRows_74 : decode prog_9_method_11_code 74 = .ok (.iconst 3, 1) := by decide +kernel
theorem d_Mod_makeRows_75 : decode prog_9_method_11_code 75 = .ok (.aload_n 0, 1) := by decide +kernel
theorem d_Mod_makeRows_76 : decode prog_9_method_11_code 76 = .ok (.getfield 19, 3) := by decide +kernel
theorem d_Mod_makeRows_79 : decode prog_9_method_11_code 79 = .ok (.imul, 1) := by decide +kernel
theorem d_Mod_makeRows_80 : decode prog_9_method_11_code 80 = .ok (.if_icmp .ge 35, 3) := by decide +kernel
theorem d_Mod_makeRows_83 : decode prog_9_method_11_code 83 = .ok (.aload_n 0, 1) := by decide +kernel
theorem d_Mod_makeRows_84 : decode prog_9_method_11_code 84 = .ok (.getfield 13, 3) := by decide +kernel
theorem d_Mod_makeRows_87 : decode prog_9_method_11_code 87 = .ok (.aload_n 0, 1) := by decide +kernel
theorem d_Mod_makeRows_88 : decode prog_9_method_11_code 88 = .ok (.getfield 45, 3) := by decide +kernel
theorem d_Mod_makeRows_91 : decode prog_9_method_11_code 91 = .ok (.aload_n 0, 1) := by decide +kernel
theorem d_Mod_makeRows_92 : decode prog_9_method_11_code 92 = .ok (.iload_n 2, 1) := by decide +kernel
theorem d_Mod_makeRows_93 : decode prog_9_method_11_code 93 = .ok (.iload_n 3, 1) := by decide +kernel
theorem d_Mod_makeRows_94 : decode prog_9_method_11_code 94 = .ok (.iload_n 1, 1) := by decide +kernel
theorem d_Mod_makeRows_95 : decode prog_9_method_11_code 95 = .ok (.invokevirtual 41, 3) := by decide +kernel
theorem d_Mod_makeRows_98 : decode prog_9_method_11_code 98 = .ok (.iastore, 1) := by decide +kernel
theorem d_Mod_makeRows_99 : decode prog_9_method_11_code 99 = .ok (.aload_n 0, 1) := by decide +kernel
theorem d_Mod_makeRows_100 : decode prog_9_method_11_code 100 = .ok (.dup, 1) := by decide +kernel
theorem d_Mod_makeRows_101 : decode prog_9_method_11_code 101 = .ok (.getfield 45, 3) := by decide +kernel
theorem d_Mod_makeRows_104 : decode prog_9_method_11_code 104 = .ok (.iconst 1, 1) := by decide +kernel
theorem d_Mod_makeRows_105 : decode prog_9_method_11_code 105 = .ok (.iadd, 1) := by decide +kernel
theorem d_Mod_makeRows_106 : decode prog_9_method_11_code 106 = .ok (.putfield 45, 3) := by decide +kernel
theorem d_Mod_makeRows_109 : decode prog_9_method_11_code 109 = .ok (.iinc 3 1, 3) := by decide +kernel
theorem d_Mod_makeRows_112 : decode prog_9_method_11_code 112 = .ok (.goto (-39), 3) := by decide +kernel
theorem d_Mod_makeRows_115 : decode prog_9_method_11_code 115 = .ok (.iinc 1 1, 3) := by decide +kernel
theorem d_Mod_makeRows_118 : decode prog_9_method_11_code 118 = .ok (.goto (-111), 3) := by decide +kernel
theorem d_Mod_makeRows_121 : decode prog_9_method_11_code 121 = .ok (.return_, 1) := by decide +kernel
abbrev y_Mod_makeRows : MethodName := ⟨"PicturePackerModel", "makeRows", "()V"⟩
def wp_Mod_makeRows_73 (n : Nat → Nat) (Mod_width : Int32) (Mod_height : Int32) (mc : Nat → Int32) (post : Int32 × (Nat → Int32) → Prop) (k7 : Int32 → (Nat → Int32) → Int32 → Prop) : Nat → Int32 → (Nat → Int32) → Int32 → Int32 → Int32 → Prop
  | 0 => fun _ _ _ _ _ => False
  | N + 1 => fun Mod_many mr y1 y2 y3 => ((3 * Mod_width : Int32) ≤ y3 → (∀ z7 : Int32, z7 = (y1 + 1) → (k7 Mod_many mr z7))) ∧ (¬ ((3 * Mod_width : Int32) ≤ y3) → (wp_Mod_filtered n mc y2 y3 y1 (fun r9 _ => vp_in Mod_many (n 16) ∧ (∀ f11 : Nat → Int32, f11 = upd mr (Mod_many : Int32).toNatClampNeg r9 → (∀ z12 : Int32, z12 = (Mod_many + 1) → (∀ z13 : Int32, z13 = (y3 + 1) → (wp_Mod_makeRows_73 n Mod_width Mod_height mc post k7 N z12 f11 y1 y2 z13)))))))
def wp_Mod_makeRows_19 (n : Nat → Nat) (Mod_width : Int32) (Mod_height : Int32) (mc : Nat → Int32) (post : Int32 × (Nat → Int32) → Prop) (k7 : Int32 → (Nat → Int32) → Int32 → Prop) : Nat → Int32 → (Nat → Int32) → Int32 → Int32 → Int32 → Prop
  | 0 => fun _ _ _ _ _ => False
  | N + 1 => fun Mod_many mr y1 y2 y3 => ((5 : Int32) ≤ y3 → (vp_in Mod_many (n 16) ∧ (∀ f4 : Nat → Int32, f4 = upd mr (Mod_many : Int32).toNatClampNeg y2 → (∀ z5 : Int32, z5 = (Mod_many + 1) → (∃ N14 : Nat, wp_Mod_makeRows_73 n Mod_width Mod_height mc post k7 N14 z5 f4 y1 y2 0))))) ∧ (¬ ((5 : Int32) ≤ y3) → (wp_Mod_sumOf n Mod_width mc y3 y1 (fun r16 _ => wp_Mod_sumOf n Mod_width mc y2 y1 (fun r18 _ => ((r18 : Int32) ≤ r16 → (∀ z20 : Int32, z20 = (y3 + 1) → (wp_Mod_makeRows_19 n Mod_width Mod_height mc post k7 N Mod_many mr y1 y2 z20))) ∧ (¬ ((r18 : Int32) ≤ r16) → (∀ z21 : Int32, z21 = (y3 + 1) → (wp_Mod_makeRows_19 n Mod_width Mod_height mc post k7 N Mod_many mr y1 y3 z21)))))))
def wp_Mod_makeRows_7 (n : Nat → Nat) (Mod_width : Int32) (Mod_height : Int32) (mc : Nat → Int32) (post : Int32 × (Nat → Int32) → Prop) : Nat → Int32 → (Nat → Int32) → Int32 → Prop
  | 0 => fun _ _ _ => False
  | N + 1 => fun Mod_many mr y1 => ((Mod_height : Int32) ≤ y1 → (post (Mod_many, mr))) ∧ (¬ ((Mod_height : Int32) ≤ y1) → (∃ N22 : Nat, wp_Mod_makeRows_19 n Mod_width Mod_height mc post (wp_Mod_makeRows_7 n Mod_width Mod_height mc post N) N22 Mod_many mr y1 0 1))
def wp_Mod_makeRows (n : Nat → Nat) (Mod_width : Int32) (Mod_height : Int32) (Mod_many : Int32) (mc : Nat → Int32) (mr : Nat → Int32) (post : Int32 × (Nat → Int32) → Prop) : Prop := ∃ N23 : Nat, wp_Mod_makeRows_7 n Mod_width Mod_height mc post N23 0 mr 0
set_option maxHeartbeats 2000000 in
set_option maxRecDepth 20000 in
theorem s_Mod_makeRows_73 {l : Launch} {dC : Nat → ClassId} {dI : Nat → Nat → Nat} {cI : ClassId} {tb a n : Nat → Nat} {p : Program} {e : Env} {s : State} {m : MethodId} {args : Array Value} {below : List Frame} {meth : Method} {c : Code} {A : Nat → Prop} (E : CallFix p m c prog_9_method_11_code 4 s args TBL "PicturePackerModel") (hr : meth.sig.returnType = none) (hlk : meth.locks = false) {Mod_thrown : Int32} {Mod_width : Int32} {Mod_height : Int32} {Mod_size : Int32} {Mod_bit : Int32} {Mod_single : Int32} {Mod_runs : Int32} {Mod_longest : Int32} {mc : Nat → Int32} {post : Int32 × (Nat → Int32) → Prop} {k7 : Int32 → (Nat → Int32) → Int32 → Prop} (hk7 : ∀ (Mod_many : Int32) (mr : Nat → Int32) (y1 : Int32) (H : Heap) (locs : List Loc) (ls : Array Slot), Wl classes dC dI cI tb A s H locs [e_Mod a Mod_thrown Mod_width Mod_height Mod_many Mod_size Mod_bit Mod_single Mod_runs Mod_longest, e_ar a n cI 15 mc, e_ar a n cI 16 mr] → lv_has ls 4 [(0, .ref (a 7)), (1, .int y1)] → k7 Mod_many mr y1 → W p l e ({ frames := 3, cells := 0, slots := 0, locals := 76 }) s m args below meth c H locs 0 0 (MQ below (va_Qv post (fun u => End0 classes dC dI cI A [e_Mod a Mod_thrown Mod_width Mod_height u.1 Mod_size Mod_bit Mod_single Mod_runs Mod_longest, e_ar a n cI 15 mc, e_ar a n cI 16 u.2]) A) args s 0 0 A) (F0 m 7 ls [])) : ∀ (N : Nat) (Mod_many : Int32) (mr : Nat → Int32) (y1 : Int32) (y2 : Int32) (y3 : Int32) (H : Heap) (locs : List Loc) (ls : Array Slot), Wl classes dC dI cI tb A s H locs [e_Mod a Mod_thrown Mod_width Mod_height Mod_many Mod_size Mod_bit Mod_single Mod_runs Mod_longest, e_ar a n cI 15 mc, e_ar a n cI 16 mr] → lv_has ls 4 [(0, .ref (a 7)), (1, .int y1), (2, .int y2), (3, .int y3)] → wp_Mod_makeRows_73 n Mod_width Mod_height mc post k7 N Mod_many mr y1 y2 y3 → W p l e ({ frames := 3, cells := 0, slots := 0, locals := 76 }) s m args below meth c H locs 0 0 (MQ below (va_Qv post (fun u => End0 classes dC dI cI A [e_Mod a Mod_thrown Mod_width Mod_height u.1 Mod_size Mod_bit Mod_single Mod_runs Mod_longest, e_ar a n cI 15 mc, e_ar a n cI 16 u.2]) A) args s 0 0 A) (F0 m 73 ls []) := by
  obtain ⟨hx, hb, hml, hown, hts⟩ := id E
  intro N
  induction N with
  | zero =>
    intro _ _ _ _ _ H locs ls hw hl h
    exact absurd h id
  | succ N ih =>
    intro Mod_many mr y1 y2 y3 H locs ls hw hl h
    unfold wp_Mod_makeRows_73 at h
    refine lv_iload_n hx hb d_Mod_makeRows_73 rfl (lv_at hl 3 rfl) ?_
    refine lv_iconst (v := 3) hx hb d_Mod_makeRows_74 (by decide) ?_
    refine lv_aload_n hx hb d_Mod_makeRows_75 rfl (lv_at hl 0 rfl) ?_
    refine kget (v := .int Mod_width) (T := F_Mod) E hw in_Mod rfl 0 1 rfl (by decide) tw436 rfl d_Mod_makeRows_76 ?_
    refine lv_imul hx hb d_Mod_makeRows_79 ?_
    refine lv_icmp_ge (tgt := 115) hx hb d_Mod_makeRows_80 (by decide) (fun c6 => ?_) (fun c6 => ?_)
    · have h := h.1 c6
      obtain ⟨z7, ez7⟩ : ∃ z : Int32, z = y1 + 1 := ⟨_, rfl⟩
      have h := h z7 ez7
      refine lv_iinc (v := z7) (lv' := [(1, .int z7), (0, .ref (a 7)), (2, .int y2), (3, .int y3)]) hx hb d_Mod_makeRows_115 hl (k := 1) rfl (by rw [ez7]; exact congrArg (y1 + ·) (by decide)) (by decide) rfl (fun ls hl => ?_)
      refine lv_goto (tgt := 7) hx hb d_Mod_makeRows_118 (by decide) ?_
      exact hk7 Mod_many mr z7 _ _ ls hw (lv_sub hl [1, 0] rfl) h
    · have h := h.2 c6
      refine lv_aload_n hx hb d_Mod_makeRows_83 rfl (lv_at hl 0 rfl) ?_
      refine kget (v := .ref (a 16)) (T := F_Mod) E hw in_Mod rfl 0 4 rfl (by decide) tw439 rfl d_Mod_makeRows_84 ?_
      refine lv_aload_n hx hb d_Mod_makeRows_87 rfl (lv_at hl 0 rfl) ?_
      refine kget (v := .int Mod_many) (T := F_Mod) E hw in_Mod rfl 0 5 rfl (by decide) tw440 rfl d_Mod_makeRows_88 ?_
      refine lv_aload_n hx hb d_Mod_makeRows_91 rfl (lv_at hl 0 rfl) ?_
      refine lv_iload_n hx hb d_Mod_makeRows_92 rfl (lv_at hl 2 rfl) ?_
      refine lv_iload_n hx hb d_Mod_makeRows_93 rfl (lv_at hl 3 rfl) ?_
      refine lv_iload_n hx hb d_Mod_makeRows_94 rfl (lv_at hl 1 rfl) ?_
      refine kVi (y := y_Mod_filtered) (ws' := fun _ => [e_Mod a Mod_thrown Mod_width Mod_height Mod_many Mod_size Mod_bit Mod_single Mod_runs Mod_longest, e_ar a n cI 15 mc, e_ar a n cI 16 mr]) (wr := [e_ar a n cI 16 mr]) (As := [.int y2, .int y3, .int y1]) (rest := [.int Mod_many, .ref (a 16)]) E hw (c_Mod_filtered (l := l) (dC := dC) (dI := dI) (cI := cI) (tb := tb) (a := a) (n := n) (Mod_thrown := Mod_thrown) (Mod_width := Mod_width) (Mod_height := Mod_height) (Mod_many := Mod_many) (Mod_size := Mod_size) (Mod_bit := Mod_bit) (Mod_single := Mod_single) (Mod_runs := Mod_runs) (Mod_longest := Mod_longest) (mc := mc) (x1 := y2) (x2 := y3) (x3 := y1) h) tw501 tw503 tw19 tw44 tw504 3 (by decide) ⟨Nat.le_of_ble_eq_true rfl, Nat.le_of_ble_eq_true rfl⟩ ⟨Nat.le_of_ble_eq_true rfl, Nat.le_of_ble_eq_true rfl⟩ ⟨rfl, rfl⟩ rfl rfl 0 rfl [0, 1] [2] [1, 2, 0] rfl rfl rfl rfl (by decide) rfl (fun _ => rfl) hl.1 rfl rfl (Nat.le_of_ble_eq_true rfl) d_Mod_makeRows_95 (fun r9 u8 H locs h hw => ?_)
      obtain ⟨b10, h⟩ := h
      obtain ⟨f11, ef11⟩ : ∃ z : Nat → Int32, z = upd mr (Mod_many : Int32).toNatClampNeg r9 := ⟨_, rfl⟩
      have h := h f11 ef11
      refine kast (ws' := [e_Mod a Mod_thrown Mod_width Mod_height Mod_many Mod_size Mod_bit Mod_single Mod_runs Mod_longest, e_ar a n cI 15 mc, e_ar a n cI 16 f11]) E hw 2 rfl b10 (by rw [ef11]; rfl) d_Mod_makeRows_98 (fun H locs hw => ?_)
      refine lv_aload_n hx hb d_Mod_makeRows_99 rfl (lv_at hl 0 rfl) ?_
      refine lv_dup hx hb d_Mod_makeRows_100 rfl ?_
      refine kget (v := .int Mod_many) (T := F_Mod) E hw in_Mod rfl 0 5 rfl (by decide) tw440 rfl d_Mod_makeRows_101 ?_
      refine lv_iconst (v := 1) hx hb d_Mod_makeRows_104 (by decide) ?_
      refine lv_iadd hx hb d_Mod_makeRows_105 ?_
      refine lv_topi (fun z12 ez12 => ?_)
      have h := h z12 ez12
      refine kput (v := .int z12) (ty := .int) (T := F_Mod) (ws' := [e_Mod a Mod_thrown Mod_width Mod_height z12 Mod_size Mod_bit Mod_single Mod_runs Mod_longest, e_ar a n cI 15 mc, e_ar a n cI 16 f11]) E hw in_Mod t_Mod t_Mod_ok n_Mod rfl 0 5 rfl (by decide) tw440 rfl rfl rfl rfl (Nat.le_of_ble_eq_true rfl) rfl d_Mod_makeRows_106 (fun H locs hw => ?_)
      obtain ⟨z13, ez13⟩ : ∃ z : Int32, z = y3 + 1 := ⟨_, rfl⟩
      have h := h z13 ez13
      refine lv_iinc (v := z13) (lv' := [(3, .int z13), (0, .ref (a 7)), (1, .int y1), (2, .int y2)]) hx hb d_Mod_makeRows_109 hl (k := 3) rfl (by rw [ez13]; exact congrArg (y3 + ·) (by decide)) (by decide) rfl (fun ls hl => ?_)
      refine lv_goto (tgt := 73) hx hb d_Mod_makeRows_112 (by decide) ?_
      exact ih z12 f11 y1 y2 z13 _ _ ls hw (lv_sub hl [1, 2, 3, 0] rfl) h
set_option maxHeartbeats 2000000 in
set_option maxRecDepth 20000 in
theorem s_Mod_makeRows_19 {l : Launch} {dC : Nat → ClassId} {dI : Nat → Nat → Nat} {cI : ClassId} {tb a n : Nat → Nat} {p : Program} {e : Env} {s : State} {m : MethodId} {args : Array Value} {below : List Frame} {meth : Method} {c : Code} {A : Nat → Prop} (E : CallFix p m c prog_9_method_11_code 4 s args TBL "PicturePackerModel") (hr : meth.sig.returnType = none) (hlk : meth.locks = false) {Mod_thrown : Int32} {Mod_width : Int32} {Mod_height : Int32} {Mod_size : Int32} {Mod_bit : Int32} {Mod_single : Int32} {Mod_runs : Int32} {Mod_longest : Int32} {mc : Nat → Int32} {post : Int32 × (Nat → Int32) → Prop} {k7 : Int32 → (Nat → Int32) → Int32 → Prop} (hk7 : ∀ (Mod_many : Int32) (mr : Nat → Int32) (y1 : Int32) (H : Heap) (locs : List Loc) (ls : Array Slot), Wl classes dC dI cI tb A s H locs [e_Mod a Mod_thrown Mod_width Mod_height Mod_many Mod_size Mod_bit Mod_single Mod_runs Mod_longest, e_ar a n cI 15 mc, e_ar a n cI 16 mr] → lv_has ls 4 [(0, .ref (a 7)), (1, .int y1)] → k7 Mod_many mr y1 → W p l e ({ frames := 3, cells := 0, slots := 0, locals := 76 }) s m args below meth c H locs 0 0 (MQ below (va_Qv post (fun u => End0 classes dC dI cI A [e_Mod a Mod_thrown Mod_width Mod_height u.1 Mod_size Mod_bit Mod_single Mod_runs Mod_longest, e_ar a n cI 15 mc, e_ar a n cI 16 u.2]) A) args s 0 0 A) (F0 m 7 ls [])) : ∀ (N : Nat) (Mod_many : Int32) (mr : Nat → Int32) (y1 : Int32) (y2 : Int32) (y3 : Int32) (H : Heap) (locs : List Loc) (ls : Array Slot), Wl classes dC dI cI tb A s H locs [e_Mod a Mod_thrown Mod_width Mod_height Mod_many Mod_size Mod_bit Mod_single Mod_runs Mod_longest, e_ar a n cI 15 mc, e_ar a n cI 16 mr] → lv_has ls 4 [(0, .ref (a 7)), (1, .int y1), (2, .int y2), (3, .int y3)] → wp_Mod_makeRows_19 n Mod_width Mod_height mc post k7 N Mod_many mr y1 y2 y3 → W p l e ({ frames := 3, cells := 0, slots := 0, locals := 76 }) s m args below meth c H locs 0 0 (MQ below (va_Qv post (fun u => End0 classes dC dI cI A [e_Mod a Mod_thrown Mod_width Mod_height u.1 Mod_size Mod_bit Mod_single Mod_runs Mod_longest, e_ar a n cI 15 mc, e_ar a n cI 16 u.2]) A) args s 0 0 A) (F0 m 19 ls []) := by
  obtain ⟨hx, hb, hml, hown, hts⟩ := id E
  intro N
  induction N with
  | zero =>
    intro _ _ _ _ _ H locs ls hw hl h
    exact absurd h id
  | succ N ih =>
    intro Mod_many mr y1 y2 y3 H locs ls hw hl h
    unfold wp_Mod_makeRows_19 at h
    refine lv_iload_n hx hb d_Mod_makeRows_19 rfl (lv_at hl 3 rfl) ?_
    refine lv_iconst (v := 5) hx hb d_Mod_makeRows_20 (by decide) ?_
    refine lv_icmp_ge (tgt := 51) hx hb d_Mod_makeRows_21 (by decide) (fun c2 => ?_) (fun c2 => ?_)
    · have h := h.1 c2
      refine lv_aload_n hx hb d_Mod_makeRows_51 rfl (lv_at hl 0 rfl) ?_
      refine kget (v := .ref (a 16)) (T := F_Mod) E hw in_Mod rfl 0 4 rfl (by decide) tw439 rfl d_Mod_makeRows_52 ?_
      refine lv_aload_n hx hb d_Mod_makeRows_55 rfl (lv_at hl 0 rfl) ?_
      refine kget (v := .int Mod_many) (T := F_Mod) E hw in_Mod rfl 0 5 rfl (by decide) tw440 rfl d_Mod_makeRows_56 ?_
      refine lv_iload_n hx hb d_Mod_makeRows_59 rfl (lv_at hl 2 rfl) ?_
      obtain ⟨b3, h⟩ := h
      obtain ⟨f4, ef4⟩ : ∃ z : Nat → Int32, z = upd mr (Mod_many : Int32).toNatClampNeg y2 := ⟨_, rfl⟩
      have h := h f4 ef4
      refine kast (ws' := [e_Mod a Mod_thrown Mod_width Mod_height Mod_many Mod_size Mod_bit Mod_single Mod_runs Mod_longest, e_ar a n cI 15 mc, e_ar a n cI 16 f4]) E hw 2 rfl b3 (by rw [ef4]; rfl) d_Mod_makeRows_60 (fun H locs hw => ?_)
      refine lv_aload_n hx hb d_Mod_makeRows_61 rfl (lv_at hl 0 rfl) ?_
      refine lv_dup hx hb d_Mod_makeRows_62 rfl ?_
      refine kget (v := .int Mod_many) (T := F_Mod) E hw in_Mod rfl 0 5 rfl (by decide) tw440 rfl d_Mod_makeRows_63 ?_
      refine lv_iconst (v := 1) hx hb d_Mod_makeRows_66 (by decide) ?_
      refine lv_iadd hx hb d_Mod_makeRows_67 ?_
      refine lv_topi (fun z5 ez5 => ?_)
      have h := h z5 ez5
      refine kput (v := .int z5) (ty := .int) (T := F_Mod) (ws' := [e_Mod a Mod_thrown Mod_width Mod_height z5 Mod_size Mod_bit Mod_single Mod_runs Mod_longest, e_ar a n cI 15 mc, e_ar a n cI 16 f4]) E hw in_Mod t_Mod t_Mod_ok n_Mod rfl 0 5 rfl (by decide) tw440 rfl rfl rfl rfl (Nat.le_of_ble_eq_true rfl) rfl d_Mod_makeRows_68 (fun H locs hw => ?_)
      refine lv_iconst (v := 0) hx hb d_Mod_makeRows_71 (by decide) ?_
      refine lv_istore_n (lv' := [(3, .int 0), (0, .ref (a 7)), (1, .int y1), (2, .int y2)]) hx hb d_Mod_makeRows_72 rfl hl (by decide) rfl (fun ls hl => ?_)
      obtain ⟨N14, h⟩ := h
      exact s_Mod_makeRows_73 (a := a) (n := n) (tb := tb) E hr hlk hk7 N14 z5 f4 y1 y2 0 _ _ ls hw (lv_sub hl [1, 2, 3, 0] rfl) h
    · have h := h.2 c2
      refine lv_aload_n hx hb d_Mod_makeRows_24 rfl (lv_at hl 0 rfl) ?_
      refine lv_iload_n hx hb d_Mod_makeRows_25 rfl (lv_at hl 3 rfl) ?_
      refine lv_iload_n hx hb d_Mod_makeRows_26 rfl (lv_at hl 1 rfl) ?_
      refine kVi (y := y_Mod_sumOf) (ws' := fun _ => [e_Mod a Mod_thrown Mod_width Mod_height Mod_many Mod_size Mod_bit Mod_single Mod_runs Mod_longest, e_ar a n cI 15 mc, e_ar a n cI 16 mr]) (wr := [e_ar a n cI 16 mr]) (As := [.int y3, .int y1]) (rest := []) E hw (c_Mod_sumOf (l := l) (dC := dC) (dI := dI) (cI := cI) (tb := tb) (a := a) (n := n) (Mod_thrown := Mod_thrown) (Mod_width := Mod_width) (Mod_height := Mod_height) (Mod_many := Mod_many) (Mod_size := Mod_size) (Mod_bit := Mod_bit) (Mod_single := Mod_single) (Mod_runs := Mod_runs) (Mod_longest := Mod_longest) (mc := mc) (x1 := y3) (x2 := y1) h) tw497 tw499 tw18 tw44 tw500 2 (by decide) ⟨Nat.le_of_ble_eq_true rfl, Nat.le_of_ble_eq_true rfl⟩ ⟨Nat.le_of_ble_eq_true rfl, Nat.le_of_ble_eq_true rfl⟩ ⟨rfl, rfl⟩ rfl rfl 0 rfl [0, 1] [2] [1, 2, 0] rfl rfl rfl rfl (by decide) rfl (fun _ => rfl) hl.1 rfl rfl (Nat.le_of_ble_eq_true rfl) d_Mod_makeRows_27 (fun r16 u15 H locs h hw => ?_)
      refine lv_aload_n hx hb d_Mod_makeRows_30 rfl (lv_at hl 0 rfl) ?_
      refine lv_iload_n hx hb d_Mod_makeRows_31 rfl (lv_at hl 2 rfl) ?_
      refine lv_iload_n hx hb d_Mod_makeRows_32 rfl (lv_at hl 1 rfl) ?_
      refine kVi (y := y_Mod_sumOf) (ws' := fun _ => [e_Mod a Mod_thrown Mod_width Mod_height Mod_many Mod_size Mod_bit Mod_single Mod_runs Mod_longest, e_ar a n cI 15 mc, e_ar a n cI 16 mr]) (wr := [e_ar a n cI 16 mr]) (As := [.int y2, .int y1]) (rest := [.int r16]) E hw (c_Mod_sumOf (l := l) (dC := dC) (dI := dI) (cI := cI) (tb := tb) (a := a) (n := n) (Mod_thrown := Mod_thrown) (Mod_width := Mod_width) (Mod_height := Mod_height) (Mod_many := Mod_many) (Mod_size := Mod_size) (Mod_bit := Mod_bit) (Mod_single := Mod_single) (Mod_runs := Mod_runs) (Mod_longest := Mod_longest) (mc := mc) (x1 := y2) (x2 := y1) h) tw497 tw499 tw18 tw44 tw500 2 (by decide) ⟨Nat.le_of_ble_eq_true rfl, Nat.le_of_ble_eq_true rfl⟩ ⟨Nat.le_of_ble_eq_true rfl, Nat.le_of_ble_eq_true rfl⟩ ⟨rfl, rfl⟩ rfl rfl 0 rfl [0, 1] [2] [1, 2, 0] rfl rfl rfl rfl (by decide) rfl (fun _ => rfl) hl.1 rfl rfl (Nat.le_of_ble_eq_true rfl) d_Mod_makeRows_33 (fun r18 u17 H locs h hw => ?_)
      refine lv_icmp_ge (tgt := 43) hx hb d_Mod_makeRows_36 (by decide) (fun c19 => ?_) (fun c19 => ?_)
      · have h := h.1 c19
        refine lv_iload_n hx hb d_Mod_makeRows_43 rfl (lv_at hl 2 rfl) ?_
        refine lv_istore_n (lv' := [(2, .int y2), (0, .ref (a 7)), (1, .int y1), (3, .int y3)]) hx hb d_Mod_makeRows_44 rfl hl (by decide) rfl (fun ls hl => ?_)
        obtain ⟨z20, ez20⟩ : ∃ z : Int32, z = y3 + 1 := ⟨_, rfl⟩
        have h := h z20 ez20
        refine lv_iinc (v := z20) (lv' := [(3, .int z20), (2, .int y2), (0, .ref (a 7)), (1, .int y1)]) hx hb d_Mod_makeRows_45 hl (k := 3) rfl (by rw [ez20]; exact congrArg (y3 + ·) (by decide)) (by decide) rfl (fun ls hl => ?_)
        refine lv_goto (tgt := 19) hx hb d_Mod_makeRows_48 (by decide) ?_
        exact ih Mod_many mr y1 y2 z20 _ _ ls hw (lv_sub hl [2, 3, 1, 0] rfl) h
      · have h := h.2 c19
        refine lv_iload_n hx hb d_Mod_makeRows_39 rfl (lv_at hl 3 rfl) ?_
        refine lv_goto (tgt := 44) hx hb d_Mod_makeRows_40 (by decide) ?_
        refine lv_istore_n (lv' := [(2, .int y3), (0, .ref (a 7)), (1, .int y1), (3, .int y3)]) hx hb d_Mod_makeRows_44 rfl hl (by decide) rfl (fun ls hl => ?_)
        obtain ⟨z21, ez21⟩ : ∃ z : Int32, z = y3 + 1 := ⟨_, rfl⟩
        have h := h z21 ez21
        refine lv_iinc (v := z21) (lv' := [(3, .int z21), (2, .int y3), (0, .ref (a 7)), (1, .int y1)]) hx hb d_Mod_makeRows_45 hl (k := 3) rfl (by rw [ez21]; exact congrArg (y3 + ·) (by decide)) (by decide) rfl (fun ls hl => ?_)
        refine lv_goto (tgt := 19) hx hb d_Mod_makeRows_48 (by decide) ?_
        exact ih Mod_many mr y1 y3 z21 _ _ ls hw (lv_sub hl [2, 3, 1, 0] rfl) h
set_option maxHeartbeats 2000000 in
set_option maxRecDepth 20000 in
theorem s_Mod_makeRows_7 {l : Launch} {dC : Nat → ClassId} {dI : Nat → Nat → Nat} {cI : ClassId} {tb a n : Nat → Nat} {p : Program} {e : Env} {s : State} {m : MethodId} {args : Array Value} {below : List Frame} {meth : Method} {c : Code} {A : Nat → Prop} (E : CallFix p m c prog_9_method_11_code 4 s args TBL "PicturePackerModel") (hr : meth.sig.returnType = none) (hlk : meth.locks = false) {Mod_thrown : Int32} {Mod_width : Int32} {Mod_height : Int32} {Mod_size : Int32} {Mod_bit : Int32} {Mod_single : Int32} {Mod_runs : Int32} {Mod_longest : Int32} {mc : Nat → Int32} {post : Int32 × (Nat → Int32) → Prop} : ∀ (N : Nat) (Mod_many : Int32) (mr : Nat → Int32) (y1 : Int32) (H : Heap) (locs : List Loc) (ls : Array Slot), Wl classes dC dI cI tb A s H locs [e_Mod a Mod_thrown Mod_width Mod_height Mod_many Mod_size Mod_bit Mod_single Mod_runs Mod_longest, e_ar a n cI 15 mc, e_ar a n cI 16 mr] → lv_has ls 4 [(0, .ref (a 7)), (1, .int y1)] → wp_Mod_makeRows_7 n Mod_width Mod_height mc post N Mod_many mr y1 → W p l e ({ frames := 3, cells := 0, slots := 0, locals := 76 }) s m args below meth c H locs 0 0 (MQ below (va_Qv post (fun u => End0 classes dC dI cI A [e_Mod a Mod_thrown Mod_width Mod_height u.1 Mod_size Mod_bit Mod_single Mod_runs Mod_longest, e_ar a n cI 15 mc, e_ar a n cI 16 u.2]) A) args s 0 0 A) (F0 m 7 ls []) := by
  obtain ⟨hx, hb, hml, hown, hts⟩ := id E
  intro N
  induction N with
  | zero =>
    intro _ _ _ H locs ls hw hl h
    exact absurd h id
  | succ N ih =>
    intro Mod_many mr y1 H locs ls hw hl h
    unfold wp_Mod_makeRows_7 at h
    refine lv_iload_n hx hb d_Mod_makeRows_7 rfl (lv_at hl 1 rfl) ?_
    refine lv_aload_n hx hb d_Mod_makeRows_8 rfl (lv_at hl 0 rfl) ?_
    refine kget (v := .int Mod_height) (T := F_Mod) E hw in_Mod rfl 0 2 rfl (by decide) tw437 rfl d_Mod_makeRows_9 ?_
    refine lv_icmp_ge (tgt := 121) hx hb d_Mod_makeRows_12 (by decide) (fun c1 => ?_) (fun c1 => ?_)
    · have h := h.1 c1
      exact retV (out := fun u => [e_Mod a Mod_thrown Mod_width Mod_height u.1 Mod_size Mod_bit Mod_single Mod_runs Mod_longest, e_ar a n cI 15 mc, e_ar a n cI 16 u.2]) (u := (Mod_many, mr)) E hr hlk hw h d_Mod_makeRows_121
    · have h := h.2 c1
      refine lv_iconst (v := 0) hx hb d_Mod_makeRows_15 (by decide) ?_
      refine lv_istore_n (lv' := [(2, .int 0), (0, .ref (a 7)), (1, .int y1)]) hx hb d_Mod_makeRows_16 rfl hl (by decide) rfl (fun ls hl => ?_)
      refine lv_iconst (v := 1) hx hb d_Mod_makeRows_17 (by decide) ?_
      refine lv_istore_n (lv' := [(3, .int 1), (2, .int 0), (0, .ref (a 7)), (1, .int y1)]) hx hb d_Mod_makeRows_18 rfl hl (by decide) rfl (fun ls hl => ?_)
      obtain ⟨N22, h⟩ := h
      exact s_Mod_makeRows_19 (a := a) (n := n) (tb := tb) E hr hlk ih N22 Mod_many mr y1 0 1 _ _ ls hw (lv_sub hl [2, 3, 1, 0] rfl) h
set_option maxHeartbeats 2000000 in
set_option maxRecDepth 20000 in
theorem c_Mod_makeRows {l : Launch} {dC : Nat → ClassId} {dI : Nat → Nat → Nat} {cI : ClassId} {tb a n : Nat → Nat} {Mod_thrown : Int32} {Mod_width : Int32} {Mod_height : Int32} {Mod_many : Int32} {Mod_size : Int32} {Mod_bit : Int32} {Mod_single : Int32} {Mod_runs : Int32} {Mod_longest : Int32} {mc : Nat → Int32} {mr : Nat → Int32} {post : Int32 × (Nat → Int32) → Prop} (h : wp_Mod_makeRows n Mod_width Mod_height Mod_many mc mr post) : CtV classes dC dI cI tb l y_Mod_makeRows prog_9_method_11_code 4 ({ frames := 3, cells := 0, slots := 0, locals := 76 }) [.ref (a 7)] [e_Mod a Mod_thrown Mod_width Mod_height Mod_many Mod_size Mod_bit Mod_single Mod_runs Mod_longest, e_ar a n cI 15 mc, e_ar a n cI 16 mr] (Int32 × (Nat → Int32)) (fun u => [e_Mod a Mod_thrown Mod_width Mod_height u.1 Mod_size Mod_bit Mod_single Mod_runs Mod_longest, e_ar a n cI 15 mc, e_ar a n cI 16 u.2]) post := by
  refine startV (by decide) (Nat.le_of_ble_eq_true rfl) ?_
  intro p e s m below meth c ls E hr hlk hnm hl hw
  have hl : lv_has ls 4 [(0, .ref (a 7))] := hl
  generalize va_A [e_Mod a Mod_thrown Mod_width Mod_height Mod_many Mod_size Mod_bit Mod_single Mod_runs Mod_longest, e_ar a n cI 15 mc, e_ar a n cI 16 mr] s.heap.size = A at hw ⊢
  obtain ⟨hx, hb, hml, hown, hts⟩ := id E
  unfold wp_Mod_makeRows at h
  refine lv_aload_n hx hb d_Mod_makeRows_0 rfl (lv_at hl 0 rfl) ?_
  refine lv_iconst (v := 0) hx hb d_Mod_makeRows_1 (by decide) ?_
  refine kput (v := .int 0) (ty := .int) (T := F_Mod) (ws' := [e_Mod a Mod_thrown Mod_width Mod_height 0 Mod_size Mod_bit Mod_single Mod_runs Mod_longest, e_ar a n cI 15 mc, e_ar a n cI 16 mr]) E hw in_Mod t_Mod t_Mod_ok n_Mod rfl 0 5 rfl (by decide) tw440 rfl rfl rfl rfl (Nat.le_of_ble_eq_true rfl) rfl d_Mod_makeRows_2 (fun H locs hw => ?_)
  refine lv_iconst (v := 0) hx hb d_Mod_makeRows_5 (by decide) ?_
  refine lv_istore_n (lv' := [(1, .int 0), (0, .ref (a 7))]) hx hb d_Mod_makeRows_6 rfl hl (by decide) rfl (fun ls hl => ?_)
  obtain ⟨N23, h⟩ := h
  exact s_Mod_makeRows_7 (a := a) (n := n) (tb := tb) E hr hlk  N23 0 mr 0 _ _ ls hw (lv_sub hl [1, 0] rfl) h
-- PicturePackerModel.one(I)V
theorem d_Mod_one_0 : decode prog_9_method_12_code 0 = .ok (.aload_n 0, 1) := by decide +kernel
theorem d_Mod_one_1 : decode prog_9_method_12_code 1 = .ok (.getfield 16, 3) := by decide +kernel
theorem d_Mod_one_4 : decode prog_9_method_12_code 4 = .ok (.aload_n 0, 1) := by decide +kernel
theorem d_Mod_one_5 : decode prog_9_method_12_code 5 = .ok (.getfield 51, 3) := by decide +kernel
theorem d_Mod_one_8 : decode prog_9_method_12_code 8 = .ok (.iload_n 1, 1) := by decide +kernel
theorem d_Mod_one_9 : decode prog_9_method_12_code 9 = .ok (.sipush 255, 3) := by decide +kernel
theorem d_Mod_one_12 : decode prog_9_method_12_code 12 = .ok (.iand, 1) := by decide +kernel
theorem d_Mod_one_13 : decode prog_9_method_12_code 13 = .ok (.iastore, 1) := by decide +kernel
theorem d_Mod_one_14 : decode prog_9_method_12_code 14 = .ok (.aload_n 0, 1) := by decide +kernel
theorem d_Mod_one_15 : decode prog_9_method_12_code 15 = .ok (.dup, 1) := by decide +kernel
theorem d_Mod_one_16 : decode prog_9_method_12_code 16 = .ok (.getfield 51, 3) := by decide +kernel
theorem d_Mod_one_19 : decode prog_9_method_12_code 19 = .ok (.iconst 1, 1) := by decide +kernel
theorem d_Mod_one_20 : decode prog_9_method_12_code 20 = .ok (.iadd, 1) := by decide +kernel
theorem d_Mod_one_21 : decode prog_9_method_12_code 21 = .ok (.putfield 51, 3) := by decide +kernel
theorem d_Mod_one_24 : decode prog_9_method_12_code 24 = .ok (.return_, 1) := by decide +kernel
abbrev y_Mod_one : MethodName := ⟨"PicturePackerModel", "one", "(I)V"⟩
def wp_Mod_one (n : Nat → Nat) (Mod_size : Int32) (mf : Nat → Int32) (x1 : Int32) (post : Int32 × (Nat → Int32) → Prop) : Prop := ∀ z1 : Int32, z1 = (x1 &&& 255) → (vp_in Mod_size (n 17) ∧ (∀ f3 : Nat → Int32, f3 = upd mf (Mod_size : Int32).toNatClampNeg z1 → (∀ z4 : Int32, z4 = (Mod_size + 1) → (post (z4, f3)))))
set_option maxHeartbeats 2000000 in
set_option maxRecDepth 20000 in
theorem c_Mod_one {l : Launch} {dC : Nat → ClassId} {dI : Nat → Nat → Nat} {cI : ClassId} {tb a n : Nat → Nat} {Mod_thrown : Int32} {Mod_width : Int32} {Mod_height : Int32} {Mod_many : Int32} {Mod_size : Int32} {Mod_bit : Int32} {Mod_single : Int32} {Mod_runs : Int32} {Mod_longest : Int32} {mf : Nat → Int32} {x1 : Int32} {post : Int32 × (Nat → Int32) → Prop} (h : wp_Mod_one n Mod_size mf x1 post) : CtV classes dC dI cI tb l y_Mod_one prog_9_method_12_code 2 ({ frames := 0, cells := 0, slots := 0, locals := 0 }) [.ref (a 7), .int x1] [e_Mod a Mod_thrown Mod_width Mod_height Mod_many Mod_size Mod_bit Mod_single Mod_runs Mod_longest, e_ar a n cI 17 mf] (Int32 × (Nat → Int32)) (fun u => [e_Mod a Mod_thrown Mod_width Mod_height Mod_many u.1 Mod_bit Mod_single Mod_runs Mod_longest, e_ar a n cI 17 u.2]) post := by
  refine startV (by decide) (Nat.le_of_ble_eq_true rfl) ?_
  intro p e s m below meth c ls E hr hlk hnm hl hw
  have hl : lv_has ls 2 [(0, .ref (a 7)), (1, .int x1)] := hl
  generalize va_A [e_Mod a Mod_thrown Mod_width Mod_height Mod_many Mod_size Mod_bit Mod_single Mod_runs Mod_longest, e_ar a n cI 17 mf] s.heap.size = A at hw ⊢
  obtain ⟨hx, hb, hml, hown, hts⟩ := id E
  unfold wp_Mod_one at h
  refine lv_aload_n hx hb d_Mod_one_0 rfl (lv_at hl 0 rfl) ?_
  refine kget (v := .ref (a 17)) (T := F_Mod) E hw in_Mod rfl 0 6 rfl (by decide) tw441 rfl d_Mod_one_1 ?_
  refine lv_aload_n hx hb d_Mod_one_4 rfl (lv_at hl 0 rfl) ?_
  refine kget (v := .int Mod_size) (T := F_Mod) E hw in_Mod rfl 0 7 rfl (by decide) tw442 rfl d_Mod_one_5 ?_
  refine lv_iload_n hx hb d_Mod_one_8 rfl (lv_at hl 1 rfl) ?_
  refine lv_sipush (v := 255) hx hb d_Mod_one_9 (by decide) ?_
  refine lv_iand hx hb d_Mod_one_12 ?_
  refine lv_topi (fun z1 ez1 => ?_)
  have h := h z1 ez1
  obtain ⟨b2, h⟩ := h
  obtain ⟨f3, ef3⟩ : ∃ z : Nat → Int32, z = upd mf (Mod_size : Int32).toNatClampNeg z1 := ⟨_, rfl⟩
  have h := h f3 ef3
  refine kast (ws' := [e_Mod a Mod_thrown Mod_width Mod_height Mod_many Mod_size Mod_bit Mod_single Mod_runs Mod_longest, e_ar a n cI 17 f3]) E hw 1 rfl b2 (by rw [ef3]; rfl) d_Mod_one_13 (fun H locs hw => ?_)
  refine lv_aload_n hx hb d_Mod_one_14 rfl (lv_at hl 0 rfl) ?_
  refine lv_dup hx hb d_Mod_one_15 rfl ?_
  refine kget (v := .int Mod_size) (T := F_Mod) E hw in_Mod rfl 0 7 rfl (by decide) tw442 rfl d_Mod_one_16 ?_
  refine lv_iconst (v := 1) hx hb d_Mod_one_19 (by decide) ?_
  refine lv_iadd hx hb d_Mod_one_20 ?_
  refine lv_topi (fun z4 ez4 => ?_)
  have h := h z4 ez4
  refine kput (v := .int z4) (ty := .int) (T := F_Mod) (ws' := [e_Mod a Mod_thrown Mod_width Mod_height Mod_many z4 Mod_bit Mod_single Mod_runs Mod_longest, e_ar a n cI 17 f3]) E hw in_Mod t_Mod t_Mod_ok n_Mod rfl 0 7 rfl (by decide) tw442 rfl rfl rfl rfl (Nat.le_of_ble_eq_true rfl) rfl d_Mod_one_21 (fun H locs hw => ?_)
  exact retV (out := fun u => [e_Mod a Mod_thrown Mod_width Mod_height Mod_many u.1 Mod_bit Mod_single Mod_runs Mod_longest, e_ar a n cI 17 u.2]) (u := (z4, f3)) E hr hlk hw h d_Mod_one_24
-- PicturePackerModel.four(I)V
theorem d_Mod_four_0 : decode prog_9_method_13_code 0 = .ok (.aload_n 0, 1) := by decide +kernel
theorem d_Mod_four_1 : decode prog_9_method_13_code 1 = .ok (.iload_n 1, 1) := by decide +kernel
theorem d_Mod_four_2 : decode prog_9_method_13_code 2 = .ok (.bipush 24, 2) := by decide +kernel
theorem d_Mod_four_4 : decode prog_9_method_13_code 4 = .ok (.ishr, 1) := by decide +kernel
theorem d_Mod_four_5 : decode prog_9_method_13_code 5 = .ok (.invokevirtual 54, 3) := by decide +kernel
theorem d_Mod_four_8 : decode prog_9_method_13_code 8 = .ok (.aload_n 0, 1) := by decide +kernel
theorem d_Mod_four_9 : decode prog_9_method_13_code 9 = .ok (.iload_n 1, 1) := by decide +kernel
theorem d_Mod_four_10 : decode prog_9_method_13_code 10 = .ok (.bipush 16, 2) := by decide +kernel
theorem d_Mod_four_12 : decode prog_9_method_13_code 12 = .ok (.ishr, 1) := by decide +kernel
theorem d_Mod_four_13 : decode prog_9_method_13_code 13 = .ok (.invokevirtual 54, 3) := by decide +kernel
theorem d_Mod_four_16 : decode prog_9_method_13_code 16 = .ok (.aload_n 0, 1) := by decide +kernel
theorem d_Mod_four_17 : decode prog_9_method_13_code 17 = .ok (.iload_n 1, 1) := by decide +kernel
theorem d_Mod_four_18 : decode prog_9_method_13_code 18 = .ok (.bipush 8, 2) := by decide +kernel
theorem d_Mod_four_20 : decode prog_9_method_13_code 20 = .ok (.ishr, 1) := by decide +kernel
theorem d_Mod_four_21 : decode prog_9_method_13_code 21 = .ok (.invokevirtual 54, 3) := by decide +kernel
theorem d_Mod_four_24 : decode prog_9_method_13_code 24 = .ok (.aload_n 0, 1) := by decide +kernel
theorem d_Mod_four_25 : decode prog_9_method_13_code 25 = .ok (.iload_n 1, 1) := by decide +kernel
theorem d_Mod_four_26 : decode prog_9_method_13_code 26 = .ok (.invokevirtual 54, 3) := by decide +kernel
theorem d_Mod_four_29 : decode prog_9_method_13_code 29 = .ok (.return_, 1) := by decide +kernel
abbrev y_Mod_four : MethodName := ⟨"PicturePackerModel", "four", "(I)V"⟩
def wp_Mod_four (n : Nat → Nat) (Mod_size : Int32) (mf : Nat → Int32) (x1 : Int32) (post : Int32 × (Nat → Int32) → Prop) : Prop := wp_Mod_one n Mod_size mf ((x1 : Int32) >>> (24 &&& 31)) (fun u1 => wp_Mod_one n u1.1 u1.2 ((x1 : Int32) >>> (16 &&& 31)) (fun u3 => wp_Mod_one n u3.1 u3.2 ((x1 : Int32) >>> (8 &&& 31)) (fun u5 => wp_Mod_one n u5.1 u5.2 x1 (fun u7 => post (u7.1, u7.2)))))
set_option maxHeartbeats 2000000 in
set_option maxRecDepth 20000 in
theorem c_Mod_four {l : Launch} {dC : Nat → ClassId} {dI : Nat → Nat → Nat} {cI : ClassId} {tb a n : Nat → Nat} {Mod_thrown : Int32} {Mod_width : Int32} {Mod_height : Int32} {Mod_many : Int32} {Mod_size : Int32} {Mod_bit : Int32} {Mod_single : Int32} {Mod_runs : Int32} {Mod_longest : Int32} {mf : Nat → Int32} {x1 : Int32} {post : Int32 × (Nat → Int32) → Prop} (h : wp_Mod_four n Mod_size mf x1 post) : CtV classes dC dI cI tb l y_Mod_four prog_9_method_13_code 2 ({ frames := 1, cells := 0, slots := 0, locals := 21 }) [.ref (a 7), .int x1] [e_Mod a Mod_thrown Mod_width Mod_height Mod_many Mod_size Mod_bit Mod_single Mod_runs Mod_longest, e_ar a n cI 17 mf] (Int32 × (Nat → Int32)) (fun u => [e_Mod a Mod_thrown Mod_width Mod_height Mod_many u.1 Mod_bit Mod_single Mod_runs Mod_longest, e_ar a n cI 17 u.2]) post := by
  refine startV (by decide) (Nat.le_of_ble_eq_true rfl) ?_
  intro p e s m below meth c ls E hr hlk hnm hl hw
  have hl : lv_has ls 2 [(0, .ref (a 7)), (1, .int x1)] := hl
  generalize va_A [e_Mod a Mod_thrown Mod_width Mod_height Mod_many Mod_size Mod_bit Mod_single Mod_runs Mod_longest, e_ar a n cI 17 mf] s.heap.size = A at hw ⊢
  obtain ⟨hx, hb, hml, hown, hts⟩ := id E
  unfold wp_Mod_four at h
  refine lv_aload_n hx hb d_Mod_four_0 rfl (lv_at hl 0 rfl) ?_
  refine lv_iload_n hx hb d_Mod_four_1 rfl (lv_at hl 1 rfl) ?_
  refine lv_bipush (v := 24) hx hb d_Mod_four_2 (by decide) ?_
  refine lv_ishr hx hb d_Mod_four_4 ?_
  refine kVv (y := y_Mod_one) (ws' := fun u1 => [e_Mod a Mod_thrown Mod_width Mod_height Mod_many u1.1 Mod_bit Mod_single Mod_runs Mod_longest, e_ar a n cI 17 u1.2]) (wr := []) (As := [.int ((x1 : Int32) >>> (24 &&& 31))]) (rest := []) E hw (c_Mod_one (l := l) (dC := dC) (dI := dI) (cI := cI) (tb := tb) (a := a) (n := n) (Mod_thrown := Mod_thrown) (Mod_width := Mod_width) (Mod_height := Mod_height) (Mod_many := Mod_many) (Mod_size := Mod_size) (Mod_bit := Mod_bit) (Mod_single := Mod_single) (Mod_runs := Mod_runs) (Mod_longest := Mod_longest) (mf := mf) (x1 := (x1 : Int32) >>> (24 &&& 31)) h) tw516 tw518 tw22 tw44 tw519 1 (by decide) ⟨Nat.le_of_ble_eq_true rfl, Nat.le_of_ble_eq_true rfl⟩ ⟨Nat.le_of_ble_eq_true rfl, Nat.le_of_ble_eq_true rfl⟩ ⟨rfl, rfl⟩ rfl rfl 0 rfl [0, 1] [] [0, 1] rfl rfl rfl rfl (by decide) rfl (fun _ => rfl) hl.1 rfl rfl (Nat.le_of_ble_eq_true rfl) d_Mod_four_5 (fun u1 H locs h hw => ?_)
  refine lv_aload_n hx hb d_Mod_four_8 rfl (lv_at hl 0 rfl) ?_
  refine lv_iload_n hx hb d_Mod_four_9 rfl (lv_at hl 1 rfl) ?_
  refine lv_bipush (v := 16) hx hb d_Mod_four_10 (by decide) ?_
  refine lv_ishr hx hb d_Mod_four_12 ?_
  refine kVv (y := y_Mod_one) (ws' := fun u3 => [e_Mod a Mod_thrown Mod_width Mod_height Mod_many u3.1 Mod_bit Mod_single Mod_runs Mod_longest, e_ar a n cI 17 u3.2]) (wr := []) (As := [.int ((x1 : Int32) >>> (16 &&& 31))]) (rest := []) E hw (c_Mod_one (l := l) (dC := dC) (dI := dI) (cI := cI) (tb := tb) (a := a) (n := n) (Mod_thrown := Mod_thrown) (Mod_width := Mod_width) (Mod_height := Mod_height) (Mod_many := Mod_many) (Mod_size := u1.1) (Mod_bit := Mod_bit) (Mod_single := Mod_single) (Mod_runs := Mod_runs) (Mod_longest := Mod_longest) (mf := u1.2) (x1 := (x1 : Int32) >>> (16 &&& 31)) h) tw516 tw518 tw22 tw44 tw519 1 (by decide) ⟨Nat.le_of_ble_eq_true rfl, Nat.le_of_ble_eq_true rfl⟩ ⟨Nat.le_of_ble_eq_true rfl, Nat.le_of_ble_eq_true rfl⟩ ⟨rfl, rfl⟩ rfl rfl 0 rfl [0, 1] [] [0, 1] rfl rfl rfl rfl (by decide) rfl (fun _ => rfl) hl.1 rfl rfl (Nat.le_of_ble_eq_true rfl) d_Mod_four_13 (fun u3 H locs h hw => ?_)
  refine lv_aload_n hx hb d_Mod_four_16 rfl (lv_at hl 0 rfl) ?_
  refine lv_iload_n hx hb d_Mod_four_17 rfl (lv_at hl 1 rfl) ?_
  refine lv_bipush (v := 8) hx hb d_Mod_four_18 (by decide) ?_
  refine lv_ishr hx hb d_Mod_four_20 ?_
  refine kVv (y := y_Mod_one) (ws' := fun u5 => [e_Mod a Mod_thrown Mod_width Mod_height Mod_many u5.1 Mod_bit Mod_single Mod_runs Mod_longest, e_ar a n cI 17 u5.2]) (wr := []) (As := [.int ((x1 : Int32) >>> (8 &&& 31))]) (rest := []) E hw (c_Mod_one (l := l) (dC := dC) (dI := dI) (cI := cI) (tb := tb) (a := a) (n := n) (Mod_thrown := Mod_thrown) (Mod_width := Mod_width) (Mod_height := Mod_height) (Mod_many := Mod_many) (Mod_size := u3.1) (Mod_bit := Mod_bit) (Mod_single := Mod_single) (Mod_runs := Mod_runs) (Mod_longest := Mod_longest) (mf := u3.2) (x1 := (x1 : Int32) >>> (8 &&& 31)) h) tw516 tw518 tw22 tw44 tw519 1 (by decide) ⟨Nat.le_of_ble_eq_true rfl, Nat.le_of_ble_eq_true rfl⟩ ⟨Nat.le_of_ble_eq_true rfl, Nat.le_of_ble_eq_true rfl⟩ ⟨rfl, rfl⟩ rfl rfl 0 rfl [0, 1] [] [0, 1] rfl rfl rfl rfl (by decide) rfl (fun _ => rfl) hl.1 rfl rfl (Nat.le_of_ble_eq_true rfl) d_Mod_four_21 (fun u5 H locs h hw => ?_)
  refine lv_aload_n hx hb d_Mod_four_24 rfl (lv_at hl 0 rfl) ?_
  refine lv_iload_n hx hb d_Mod_four_25 rfl (lv_at hl 1 rfl) ?_
  refine kVv (y := y_Mod_one) (ws' := fun u7 => [e_Mod a Mod_thrown Mod_width Mod_height Mod_many u7.1 Mod_bit Mod_single Mod_runs Mod_longest, e_ar a n cI 17 u7.2]) (wr := []) (As := [.int x1]) (rest := []) E hw (c_Mod_one (l := l) (dC := dC) (dI := dI) (cI := cI) (tb := tb) (a := a) (n := n) (Mod_thrown := Mod_thrown) (Mod_width := Mod_width) (Mod_height := Mod_height) (Mod_many := Mod_many) (Mod_size := u5.1) (Mod_bit := Mod_bit) (Mod_single := Mod_single) (Mod_runs := Mod_runs) (Mod_longest := Mod_longest) (mf := u5.2) (x1 := x1) h) tw516 tw518 tw22 tw44 tw519 1 (by decide) ⟨Nat.le_of_ble_eq_true rfl, Nat.le_of_ble_eq_true rfl⟩ ⟨Nat.le_of_ble_eq_true rfl, Nat.le_of_ble_eq_true rfl⟩ ⟨rfl, rfl⟩ rfl rfl 0 rfl [0, 1] [] [0, 1] rfl rfl rfl rfl (by decide) rfl (fun _ => rfl) hl.1 rfl rfl (Nat.le_of_ble_eq_true rfl) d_Mod_four_26 (fun u7 H locs h hw => ?_)
  exact retV (out := fun u => [e_Mod a Mod_thrown Mod_width Mod_height Mod_many u.1 Mod_bit Mod_single Mod_runs Mod_longest, e_ar a n cI 17 u.2]) (u := (u7.1, u7.2)) E hr hlk hw h d_Mod_four_29
-- PicturePackerModel.name(IIII)V
theorem d_Mod_name_0 : decode prog_9_method_14_code 0 = .ok (.aload_n 0, 1) := by decide +kernel
theorem d_Mod_name_1 : decode prog_9_method_14_code 1 = .ok (.iload_n 1, 1) := by decide +kernel
theorem d_Mod_name_2 : decode prog_9_method_14_code 2 = .ok (.invokevirtual 54, 3) := by decide +kernel
theorem d_Mod_name_5 : decode prog_9_method_14_code 5 = .ok (.aload_n 0, 1) := by decide +kernel
theorem d_Mod_name_6 : decode prog_9_method_14_code 6 = .ok (.iload_n 2, 1) := by decide +kernel
theorem d_Mod_name_7 : decode prog_9_method_14_code 7 = .ok (.invokevirtual 54, 3) := by decide +kernel
theorem d_Mod_name_10 : decode prog_9_method_14_code 10 = .ok (.aload_n 0, 1) := by decide +kernel
theorem d_Mod_name_11 : decode prog_9_method_14_code 11 = .ok (.iload_n 3, 1) := by decide +kernel
theorem d_Mod_name_12 : decode prog_9_method_14_code 12 = .ok (.invokevirtual 54, 3) := by decide +kernel
theorem d_Mod_name_15 : decode prog_9_method_14_code 15 = .ok (.aload_n 0, 1) := by decide +kernel
theorem d_Mod_name_16 : decode prog_9_method_14_code 16 = .ok (.iload 4, 2) := by decide +kernel
theorem d_Mod_name_18 : decode prog_9_method_14_code 18 = .ok (.invokevirtual 54, 3) := by decide +kernel
theorem d_Mod_name_21 : decode prog_9_method_14_code 21 = .ok (.return_, 1) := by decide +kernel
abbrev y_Mod_name : MethodName := ⟨"PicturePackerModel", "name", "(IIII)V"⟩
def wp_Mod_name (n : Nat → Nat) (Mod_size : Int32) (mf : Nat → Int32) (x1 : Int32) (x2 : Int32) (x3 : Int32) (x4 : Int32) (post : Int32 × (Nat → Int32) → Prop) : Prop := wp_Mod_one n Mod_size mf x1 (fun u1 => wp_Mod_one n u1.1 u1.2 x2 (fun u3 => wp_Mod_one n u3.1 u3.2 x3 (fun u5 => wp_Mod_one n u5.1 u5.2 x4 (fun u7 => post (u7.1, u7.2)))))
set_option maxHeartbeats 2000000 in
set_option maxRecDepth 20000 in
theorem c_Mod_name {l : Launch} {dC : Nat → ClassId} {dI : Nat → Nat → Nat} {cI : ClassId} {tb a n : Nat → Nat} {Mod_thrown : Int32} {Mod_width : Int32} {Mod_height : Int32} {Mod_many : Int32} {Mod_size : Int32} {Mod_bit : Int32} {Mod_single : Int32} {Mod_runs : Int32} {Mod_longest : Int32} {mf : Nat → Int32} {x1 : Int32} {x2 : Int32} {x3 : Int32} {x4 : Int32} {post : Int32 × (Nat → Int32) → Prop} (h : wp_Mod_name n Mod_size mf x1 x2 x3 x4 post) : CtV classes dC dI cI tb l y_Mod_name prog_9_method_14_code 5 ({ frames := 1, cells := 0, slots := 0, locals := 21 }) [.ref (a 7), .int x1, .int x2, .int x3, .int x4] [e_Mod a Mod_thrown Mod_width Mod_height Mod_many Mod_size Mod_bit Mod_single Mod_runs Mod_longest, e_ar a n cI 17 mf] (Int32 × (Nat → Int32)) (fun u => [e_Mod a Mod_thrown Mod_width Mod_height Mod_many u.1 Mod_bit Mod_single Mod_runs Mod_longest, e_ar a n cI 17 u.2]) post := by
  refine startV (by decide) (Nat.le_of_ble_eq_true rfl) ?_
  intro p e s m below meth c ls E hr hlk hnm hl hw
  have hl : lv_has ls 5 [(0, .ref (a 7)), (1, .int x1), (2, .int x2), (3, .int x3), (4, .int x4)] := hl
  generalize va_A [e_Mod a Mod_thrown Mod_width Mod_height Mod_many Mod_size Mod_bit Mod_single Mod_runs Mod_longest, e_ar a n cI 17 mf] s.heap.size = A at hw ⊢
  obtain ⟨hx, hb, hml, hown, hts⟩ := id E
  unfold wp_Mod_name at h
  refine lv_aload_n hx hb d_Mod_name_0 rfl (lv_at hl 0 rfl) ?_
  refine lv_iload_n hx hb d_Mod_name_1 rfl (lv_at hl 1 rfl) ?_
  refine kVv (y := y_Mod_one) (ws' := fun u1 => [e_Mod a Mod_thrown Mod_width Mod_height Mod_many u1.1 Mod_bit Mod_single Mod_runs Mod_longest, e_ar a n cI 17 u1.2]) (wr := []) (As := [.int x1]) (rest := []) E hw (c_Mod_one (l := l) (dC := dC) (dI := dI) (cI := cI) (tb := tb) (a := a) (n := n) (Mod_thrown := Mod_thrown) (Mod_width := Mod_width) (Mod_height := Mod_height) (Mod_many := Mod_many) (Mod_size := Mod_size) (Mod_bit := Mod_bit) (Mod_single := Mod_single) (Mod_runs := Mod_runs) (Mod_longest := Mod_longest) (mf := mf) (x1 := x1) h) tw516 tw518 tw22 tw44 tw519 1 (by decide) ⟨Nat.le_of_ble_eq_true rfl, Nat.le_of_ble_eq_true rfl⟩ ⟨Nat.le_of_ble_eq_true rfl, Nat.le_of_ble_eq_true rfl⟩ ⟨rfl, rfl⟩ rfl rfl 0 rfl [0, 1] [] [0, 1] rfl rfl rfl rfl (by decide) rfl (fun _ => rfl) hl.1 rfl rfl (Nat.le_of_ble_eq_true rfl) d_Mod_name_2 (fun u1 H locs h hw => ?_)
  refine lv_aload_n hx hb d_Mod_name_5 rfl (lv_at hl 0 rfl) ?_
  refine lv_iload_n hx hb d_Mod_name_6 rfl (lv_at hl 2 rfl) ?_
  refine kVv (y := y_Mod_one) (ws' := fun u3 => [e_Mod a Mod_thrown Mod_width Mod_height Mod_many u3.1 Mod_bit Mod_single Mod_runs Mod_longest, e_ar a n cI 17 u3.2]) (wr := []) (As := [.int x2]) (rest := []) E hw (c_Mod_one (l := l) (dC := dC) (dI := dI) (cI := cI) (tb := tb) (a := a) (n := n) (Mod_thrown := Mod_thrown) (Mod_width := Mod_width) (Mod_height := Mod_height) (Mod_many := Mod_many) (Mod_size := u1.1) (Mod_bit := Mod_bit) (Mod_single := Mod_single) (Mod_runs := Mod_runs) (Mod_longest := Mod_longest) (mf := u1.2) (x1 := x2) h) tw516 tw518 tw22 tw44 tw519 1 (by decide) ⟨Nat.le_of_ble_eq_true rfl, Nat.le_of_ble_eq_true rfl⟩ ⟨Nat.le_of_ble_eq_true rfl, Nat.le_of_ble_eq_true rfl⟩ ⟨rfl, rfl⟩ rfl rfl 0 rfl [0, 1] [] [0, 1] rfl rfl rfl rfl (by decide) rfl (fun _ => rfl) hl.1 rfl rfl (Nat.le_of_ble_eq_true rfl) d_Mod_name_7 (fun u3 H locs h hw => ?_)
  refine lv_aload_n hx hb d_Mod_name_10 rfl (lv_at hl 0 rfl) ?_
  refine lv_iload_n hx hb d_Mod_name_11 rfl (lv_at hl 3 rfl) ?_
  refine kVv (y := y_Mod_one) (ws' := fun u5 => [e_Mod a Mod_thrown Mod_width Mod_height Mod_many u5.1 Mod_bit Mod_single Mod_runs Mod_longest, e_ar a n cI 17 u5.2]) (wr := []) (As := [.int x3]) (rest := []) E hw (c_Mod_one (l := l) (dC := dC) (dI := dI) (cI := cI) (tb := tb) (a := a) (n := n) (Mod_thrown := Mod_thrown) (Mod_width := Mod_width) (Mod_height := Mod_height) (Mod_many := Mod_many) (Mod_size := u3.1) (Mod_bit := Mod_bit) (Mod_single := Mod_single) (Mod_runs := Mod_runs) (Mod_longest := Mod_longest) (mf := u3.2) (x1 := x3) h) tw516 tw518 tw22 tw44 tw519 1 (by decide) ⟨Nat.le_of_ble_eq_true rfl, Nat.le_of_ble_eq_true rfl⟩ ⟨Nat.le_of_ble_eq_true rfl, Nat.le_of_ble_eq_true rfl⟩ ⟨rfl, rfl⟩ rfl rfl 0 rfl [0, 1] [] [0, 1] rfl rfl rfl rfl (by decide) rfl (fun _ => rfl) hl.1 rfl rfl (Nat.le_of_ble_eq_true rfl) d_Mod_name_12 (fun u5 H locs h hw => ?_)
  refine lv_aload_n hx hb d_Mod_name_15 rfl (lv_at hl 0 rfl) ?_
  refine lv_iload hx hb d_Mod_name_16 (lv_at hl 4 rfl) ?_
  refine kVv (y := y_Mod_one) (ws' := fun u7 => [e_Mod a Mod_thrown Mod_width Mod_height Mod_many u7.1 Mod_bit Mod_single Mod_runs Mod_longest, e_ar a n cI 17 u7.2]) (wr := []) (As := [.int x4]) (rest := []) E hw (c_Mod_one (l := l) (dC := dC) (dI := dI) (cI := cI) (tb := tb) (a := a) (n := n) (Mod_thrown := Mod_thrown) (Mod_width := Mod_width) (Mod_height := Mod_height) (Mod_many := Mod_many) (Mod_size := u5.1) (Mod_bit := Mod_bit) (Mod_single := Mod_single) (Mod_runs := Mod_runs) (Mod_longest := Mod_longest) (mf := u5.2) (x1 := x4) h) tw516 tw518 tw22 tw44 tw519 1 (by decide) ⟨Nat.le_of_ble_eq_true rfl, Nat.le_of_ble_eq_true rfl⟩ ⟨Nat.le_of_ble_eq_true rfl, Nat.le_of_ble_eq_true rfl⟩ ⟨rfl, rfl⟩ rfl rfl 0 rfl [0, 1] [] [0, 1] rfl rfl rfl rfl (by decide) rfl (fun _ => rfl) hl.1 rfl rfl (Nat.le_of_ble_eq_true rfl) d_Mod_name_18 (fun u7 H locs h hw => ?_)
  exact retV (out := fun u => [e_Mod a Mod_thrown Mod_width Mod_height Mod_many u.1 Mod_bit Mod_single Mod_runs Mod_longest, e_ar a n cI 17 u.2]) (u := (u7.1, u7.2)) E hr hlk hw h d_Mod_name_21
-- PicturePackerModel.check(I)V
theorem d_Mod_check_0 : decode prog_9_method_15_code 0 = .ok (.iconst (-1), 1) := by decide +kernel
theorem d_Mod_check_1 : decode prog_9_method_15_code 1 = .ok (.istore_n 2, 1) := by decide +kernel
theorem d_Mod_check_2 : decode prog_9_method_15_code 2 = .ok (.iload_n 1, 1) := by decide +kernel
theorem d_Mod_check_3 : decode prog_9_method_15_code 3 = .ok (.istore_n 3, 1) := by decide +kernel
theorem d_Mod_check_4 : decode prog_9_method_15_code 4 = .ok (.iload_n 3, 1) := by decide +kernel
theorem d_Mod_check_5 : decode prog_9_method_15_code 5 = .ok (.aload_n 0, 1) := by decide +kernel
theorem d_Mod_check_6 : decode prog_9_method_15_code 6 = .ok (.getfield 51, 3) := by decide +kernel
theorem d_Mod_check_9 : decode prog_9_method_15_code 9 = .ok (.if_icmp .ge 58, 3) := by decide +kernel
theorem d_Mod_check_12 : decode prog_9_method_15_code 12 = .ok (.iload_n 2, 1) := by decide +kernel
theorem d_Mod_check_13 : decode prog_9_method_15_code 13 = .ok (.aload_n 0, 1) := by decide +kernel
theorem d_Mod_check_14 : decode prog_9_method_15_code 14 = .ok (.getfield 16, 3) := by decide +kernel
theorem d_Mod_check_17 : decode prog_9_method_15_code 17 = .ok (.iload_n 3, 1) := by decide +kernel
theorem d_Mod_check_18 : decode prog_9_method_15_code 18 = .ok (.iaload, 1) := by decide +kernel
theorem d_Mod_check_19 : decode prog_9_method_15_code 19 = .ok (.ixor, 1) := by decide +kernel
theorem d_Mod_check_20 : decode prog_9_method_15_code 20 = .ok (.istore_n 2, 1) := by decide +kernel
theorem d_Mod_check_21 : decode prog_9_method_15_code 21 = .ok (.iconst 0, 1) := by decide +kernel
theorem d_Mod_check_22 : decode prog_9_method_15_code 22 = .ok (.istore 4, 2) := by decide +kernel
theorem d_Mod_check_24 : decode prog_9_method_15_code 24 = .ok (.iload 4, 2) := by decide +kernel
theorem d_Mod_check_26 : decode prog_9_method_15_code 26 = .ok (.bipush 8, 2) := by decide +kernel
theorem d_Mod_check_28 : decode prog_9_method_15_code 28 = .ok (.if_icmp .ge 33, 3) := by decide +kernel
theorem d_Mod_check_31 : decode prog_9_method_15_code 31 = .ok (.iload_n 2, 1) := by decide +kernel
theorem d_Mod_check_32 : decode prog_9_method_15_code 32 = .ok (.iconst 1, 1) := by decide +kernel
theorem d_Mod_check_33 : decode prog_9_method_15_code 33 = .ok (.iand, 1) := by decide +kernel
theorem d_Mod_check_34 : decode prog_9_method_15_code 34 = .ok (.istore 5, 2) := by decide +kernel
theorem d_Mod_check_36 : decode prog_9_method_15_code 36 = .ok (.iload_n 2, 1) := by decide +kernel
theorem d_Mod_check_37 : decode prog_9_method_15_code 37 = .ok (.iconst 1, 1) := by decide +kernel
theorem d_Mod_check_38 : decode prog_9_method_15_code 38 = .ok (.iushr, 1) := by decide +kernel
theorem d_Mod_check_39 : decode prog_9_method_15_code 39 = .ok (.istore_n 2, 1) := by decide +kernel
theorem d_Mod_check_40 : decode prog_9_method_15_code 40 = .ok (.iload 5, 2) := by decide +kernel
theorem d_Mod_check_42 : decode prog_9_method_15_code 42 = .ok (.iconst 1, 1) := by decide +kernel
theorem d_Mod_check_43 : decode prog_9_method_15_code 43 = .ok (.if_icmp .ne 10, 3) := by decide +kernel
theorem d_Mod_check_46 : decode prog_9_method_15_code 46 = .ok (.iload_n 2, 1) := by decide +kernel
theorem d_Mod_check_47 : decode prog_9_method_15_code 47 = .ok (.ldc 58, 2) := by decide +kernel
theorem d_Mod_check_49 : decode prog_9_method_15_code 49 = .ok (.ixor, 1) := by decide +kernel
theorem d_Mod_check_50 : decode prog_9_method_15_code 50 = .ok (.goto 4, 3) := by decide +kernel
theorem d_Mod_check_53 : decode prog_9_method_15_code 53 = .ok (.iload_n 2, 1) := by decide +kernel
theorem d_Mod_check_54 : decode prog_9_method_15_code 54 = .ok (.istore_n 2, 1) := by decide +kernel
theorem d_Mod_check_55 : decode prog_9_method_15_code 55 = .ok (.iinc 4 1, 3) := by decide +kernel
theorem d_Mod_check_58 : decode prog_9_method_15_code 58 = .ok (.goto (-34), 3) := by decide +kernel
theorem d_Mod_check_61 : decode prog_9_method_15_code 61 = .ok (.iinc 3 1, 3) := by decide +kernel
theorem d_Mod_check_64 : decode prog_9_method_15_code 64 = .ok (.goto (-60), 3) := by decide +kernel
theorem d_Mod_check_67 : decode prog_9_method_15_code 67 = .ok (.aload_n 0, 1) := by decide +kernel
theorem d_Mod_check_68 : decode prog_9_method_15_code 68 = .ok (.iload_n 2, 1) := by decide +kernel
theorem d_Mod_check_69 : decode prog_9_method_15_code 69 = .ok (.iconst (-1), 1) := by decide +kernel
theorem d_Mod_check_70 : decode prog_9_method_15_code 70 = .ok (.ixor, 1) := by decide +kernel
theorem d_Mod_check_71 : decode prog_9_method_15_code 71 = .ok (.invokevirtual 59, 3) := by decide +kernel
theorem d_Mod_check_74 : decode prog_9_method_15_code 74 = .ok (.return_, 1) := by decide +kernel
abbrev y_Mod_check : MethodName := ⟨"PicturePackerModel", "check", "(I)V"⟩
def wp_Mod_check_24 (n : Nat → Nat) (x1 : Int32) (post : Int32 × (Nat → Int32) → Prop) (k4 : Int32 → (Nat → Int32) → Int32 → Int32 → Prop) : Nat → Int32 → (Nat → Int32) → Int32 → Int32 → Int32 → Prop
  | 0 => fun _ _ _ _ _ => False
  | N + 1 => fun Mod_size mf y2 y3 y4 => ((8 : Int32) ≤ y4 → (∀ z7 : Int32, z7 = (y3 + 1) → (k4 Mod_size mf y2 z7))) ∧ (¬ ((8 : Int32) ≤ y4) → (∀ z8 : Int32, z8 = (y2 &&& 1) → (∀ z9 : Int32, z9 = (((y2 : Int32).toUInt32 >>> ((1 : Int32).toUInt32 &&& Int32.toUInt32 31)).toInt32) → ((¬ (z8 : Int32) = 1 → (∀ z11 : Int32, z11 = (y4 + 1) → (wp_Mod_check_24 n x1 post k4 N Mod_size mf z9 y3 z11))) ∧ ((z8 : Int32) = 1 → (∀ z12 : Int32, z12 = (z9 ^^^ ((-306674912))) → (∀ z13 : Int32, z13 = (y4 + 1) → (wp_Mod_check_24 n x1 post k4 N Mod_size mf z12 y3 z13))))))))
def wp_Mod_check_4 (n : Nat → Nat) (x1 : Int32) (post : Int32 × (Nat → Int32) → Prop) : Nat → Int32 → (Nat → Int32) → Int32 → Int32 → Prop
  | 0 => fun _ _ _ _ => False
  | N + 1 => fun Mod_size mf y2 y3 => ((Mod_size : Int32) ≤ y3 → (wp_Mod_four n Mod_size mf (y2 ^^^ ((-1))) (fun u2 => post (u2.1, u2.2)))) ∧ (¬ ((Mod_size : Int32) ≤ y3) → (vp_in y3 (n 17) ∧ (∀ z5 : Int32, z5 = (y2 ^^^ (mf (y3 : Int32).toNatClampNeg)) → (∃ N14 : Nat, wp_Mod_check_24 n x1 post (wp_Mod_check_4 n x1 post N) N14 Mod_size mf z5 y3 0))))
def wp_Mod_check (n : Nat → Nat) (Mod_size : Int32) (mf : Nat → Int32) (x1 : Int32) (post : Int32 × (Nat → Int32) → Prop) : Prop := ∃ N15 : Nat, wp_Mod_check_4 n x1 post N15 Mod_size mf ((-1)) x1
set_option maxHeartbeats 2000000 in
set_option maxRecDepth 20000 in
theorem s_Mod_check_24 {l : Launch} {dC : Nat → ClassId} {dI : Nat → Nat → Nat} {cI : ClassId} {tb a n : Nat → Nat} {p : Program} {e : Env} {s : State} {m : MethodId} {args : Array Value} {below : List Frame} {meth : Method} {c : Code} {A : Nat → Prop} (E : CallFix p m c prog_9_method_15_code 6 s args TBL "PicturePackerModel") (hr : meth.sig.returnType = none) (hlk : meth.locks = false) {Mod_thrown : Int32} {Mod_width : Int32} {Mod_height : Int32} {Mod_many : Int32} {Mod_bit : Int32} {Mod_single : Int32} {Mod_runs : Int32} {Mod_longest : Int32} {x1 : Int32} {post : Int32 × (Nat → Int32) → Prop} {k4 : Int32 → (Nat → Int32) → Int32 → Int32 → Prop} (hk4 : ∀ (Mod_size : Int32) (mf : Nat → Int32) (y2 : Int32) (y3 : Int32) (H : Heap) (locs : List Loc) (ls : Array Slot), Wl classes dC dI cI tb A s H locs [e_Mod a Mod_thrown Mod_width Mod_height Mod_many Mod_size Mod_bit Mod_single Mod_runs Mod_longest, e_ar a n cI 17 mf] → lv_has ls 6 [(0, .ref (a 7)), (2, .int y2), (3, .int y3)] → k4 Mod_size mf y2 y3 → W p l e ({ frames := 2, cells := 0, slots := 0, locals := 42 }) s m args below meth c H locs 0 0 (MQ below (va_Qv post (fun u => End0 classes dC dI cI A [e_Mod a Mod_thrown Mod_width Mod_height Mod_many u.1 Mod_bit Mod_single Mod_runs Mod_longest, e_ar a n cI 17 u.2]) A) args s 0 0 A) (F0 m 4 ls [])) : ∀ (N : Nat) (Mod_size : Int32) (mf : Nat → Int32) (y2 : Int32) (y3 : Int32) (y4 : Int32) (H : Heap) (locs : List Loc) (ls : Array Slot), Wl classes dC dI cI tb A s H locs [e_Mod a Mod_thrown Mod_width Mod_height Mod_many Mod_size Mod_bit Mod_single Mod_runs Mod_longest, e_ar a n cI 17 mf] → lv_has ls 6 [(0, .ref (a 7)), (2, .int y2), (3, .int y3), (4, .int y4)] → wp_Mod_check_24 n x1 post k4 N Mod_size mf y2 y3 y4 → W p l e ({ frames := 2, cells := 0, slots := 0, locals := 42 }) s m args below meth c H locs 0 0 (MQ below (va_Qv post (fun u => End0 classes dC dI cI A [e_Mod a Mod_thrown Mod_width Mod_height Mod_many u.1 Mod_bit Mod_single Mod_runs Mod_longest, e_ar a n cI 17 u.2]) A) args s 0 0 A) (F0 m 24 ls []) := by
  obtain ⟨hx, hb, hml, hown, hts⟩ := id E
  intro N
  induction N with
  | zero =>
    intro _ _ _ _ _ H locs ls hw hl h
    exact absurd h id
  | succ N ih =>
    intro Mod_size mf y2 y3 y4 H locs ls hw hl h
    unfold wp_Mod_check_24 at h
    refine lv_iload hx hb d_Mod_check_24 (lv_at hl 3 rfl) ?_
    refine lv_bipush (v := 8) hx hb d_Mod_check_26 (by decide) ?_
    refine lv_icmp_ge (tgt := 61) hx hb d_Mod_check_28 (by decide) (fun c6 => ?_) (fun c6 => ?_)
    · have h := h.1 c6
      obtain ⟨z7, ez7⟩ : ∃ z : Int32, z = y3 + 1 := ⟨_, rfl⟩
      have h := h z7 ez7
      refine lv_iinc (v := z7) (lv' := [(3, .int z7), (0, .ref (a 7)), (2, .int y2), (4, .int y4)]) hx hb d_Mod_check_61 hl (k := 2) rfl (by rw [ez7]; exact congrArg (y3 + ·) (by decide)) (by decide) rfl (fun ls hl => ?_)
      refine lv_goto (tgt := 4) hx hb d_Mod_check_64 (by decide) ?_
      exact hk4 Mod_size mf y2 z7 _ _ ls hw (lv_sub hl [1, 2, 0] rfl) h
    · have h := h.2 c6
      refine lv_iload_n hx hb d_Mod_check_31 rfl (lv_at hl 1 rfl) ?_
      refine lv_iconst (v := 1) hx hb d_Mod_check_32 (by decide) ?_
      refine lv_iand hx hb d_Mod_check_33 ?_
      refine lv_topi (fun z8 ez8 => ?_)
      have h := h z8 ez8
      refine lv_istore (lv' := [(5, .int z8), (0, .ref (a 7)), (2, .int y2), (3, .int y3), (4, .int y4)]) hx hb d_Mod_check_34 hl (by decide) rfl (fun ls hl => ?_)
      refine lv_iload_n hx hb d_Mod_check_36 rfl (lv_at hl 2 rfl) ?_
      refine lv_iconst (v := 1) hx hb d_Mod_check_37 (by decide) ?_
      refine lv_iushr (v := ((y2 : Int32).toUInt32 >>> ((1 : Int32).toUInt32 &&& Int32.toUInt32 31)).toInt32) hx hb d_Mod_check_38 rfl ?_
      refine lv_topi (fun z9 ez9 => ?_)
      have h := h z9 ez9
      refine lv_istore_n (lv' := [(2, .int z9), (5, .int z8), (0, .ref (a 7)), (3, .int y3), (4, .int y4)]) hx hb d_Mod_check_39 rfl hl (by decide) rfl (fun ls hl => ?_)
      refine lv_iload hx hb d_Mod_check_40 (lv_at hl 1 rfl) ?_
      refine lv_iconst (v := 1) hx hb d_Mod_check_42 (by decide) ?_
      refine lv_icmp_ne (tgt := 53) hx hb d_Mod_check_43 (by decide) (fun c10 => ?_) (fun c10 => ?_)
      · have h := h.1 c10
        refine lv_iload_n hx hb d_Mod_check_53 rfl (lv_at hl 0 rfl) ?_
        refine lv_istore_n (lv' := [(2, .int z9), (5, .int z8), (0, .ref (a 7)), (3, .int y3), (4, .int y4)]) hx hb d_Mod_check_54 rfl hl (by decide) rfl (fun ls hl => ?_)
        obtain ⟨z11, ez11⟩ : ∃ z : Int32, z = y4 + 1 := ⟨_, rfl⟩
        have h := h z11 ez11
        refine lv_iinc (v := z11) (lv' := [(4, .int z11), (2, .int z9), (5, .int z8), (0, .ref (a 7)), (3, .int y3)]) hx hb d_Mod_check_55 hl (k := 4) rfl (by rw [ez11]; exact congrArg (y4 + ·) (by decide)) (by decide) rfl (fun ls hl => ?_)
        refine lv_goto (tgt := 24) hx hb d_Mod_check_58 (by decide) ?_
        exact ih Mod_size mf z9 y3 z11 _ _ ls hw (lv_sub hl [3, 1, 4, 0] rfl) h
      · have h := h.2 c10
        refine lv_iload_n hx hb d_Mod_check_46 rfl (lv_at hl 0 rfl) ?_
        refine lv_ldc (v := (-306674912)) hx hb hown (hts _ tw528) d_Mod_check_47 ?_
        refine lv_ixor hx hb d_Mod_check_49 ?_
        refine lv_goto (tgt := 54) hx hb d_Mod_check_50 (by decide) ?_
        refine lv_topi (fun z12 ez12 => ?_)
        have h := h z12 ez12
        refine lv_istore_n (lv' := [(2, .int z12), (5, .int z8), (0, .ref (a 7)), (3, .int y3), (4, .int y4)]) hx hb d_Mod_check_54 rfl hl (by decide) rfl (fun ls hl => ?_)
        obtain ⟨z13, ez13⟩ : ∃ z : Int32, z = y4 + 1 := ⟨_, rfl⟩
        have h := h z13 ez13
        refine lv_iinc (v := z13) (lv' := [(4, .int z13), (2, .int z12), (5, .int z8), (0, .ref (a 7)), (3, .int y3)]) hx hb d_Mod_check_55 hl (k := 4) rfl (by rw [ez13]; exact congrArg (y4 + ·) (by decide)) (by decide) rfl (fun ls hl => ?_)
        refine lv_goto (tgt := 24) hx hb d_Mod_check_58 (by decide) ?_
        exact ih Mod_size mf z12 y3 z13 _ _ ls hw (lv_sub hl [3, 1, 4, 0] rfl) h
set_option maxHeartbeats 2000000 in
set_option maxRecDepth 20000 in
theorem s_Mod_check_4 {l : Launch} {dC : Nat → ClassId} {dI : Nat → Nat → Nat} {cI : ClassId} {tb a n : Nat → Nat} {p : Program} {e : Env} {s : State} {m : MethodId} {args : Array Value} {below : List Frame} {meth : Method} {c : Code} {A : Nat → Prop} (E : CallFix p m c prog_9_method_15_code 6 s args TBL "PicturePackerModel") (hr : meth.sig.returnType = none) (hlk : meth.locks = false) {Mod_thrown : Int32} {Mod_width : Int32} {Mod_height : Int32} {Mod_many : Int32} {Mod_bit : Int32} {Mod_single : Int32} {Mod_runs : Int32} {Mod_longest : Int32} {x1 : Int32} {post : Int32 × (Nat → Int32) → Prop} : ∀ (N : Nat) (Mod_size : Int32) (mf : Nat → Int32) (y2 : Int32) (y3 : Int32) (H : Heap) (locs : List Loc) (ls : Array Slot), Wl classes dC dI cI tb A s H locs [e_Mod a Mod_thrown Mod_width Mod_height Mod_many Mod_size Mod_bit Mod_single Mod_runs Mod_longest, e_ar a n cI 17 mf] → lv_has ls 6 [(0, .ref (a 7)), (2, .int y2), (3, .int y3)] → wp_Mod_check_4 n x1 post N Mod_size mf y2 y3 → W p l e ({ frames := 2, cells := 0, slots := 0, locals := 42 }) s m args below meth c H locs 0 0 (MQ below (va_Qv post (fun u => End0 classes dC dI cI A [e_Mod a Mod_thrown Mod_width Mod_height Mod_many u.1 Mod_bit Mod_single Mod_runs Mod_longest, e_ar a n cI 17 u.2]) A) args s 0 0 A) (F0 m 4 ls []) := by
  obtain ⟨hx, hb, hml, hown, hts⟩ := id E
  intro N
  induction N with
  | zero =>
    intro _ _ _ _ H locs ls hw hl h
    exact absurd h id
  | succ N ih =>
    intro Mod_size mf y2 y3 H locs ls hw hl h
    unfold wp_Mod_check_4 at h
    refine lv_iload_n hx hb d_Mod_check_4 rfl (lv_at hl 2 rfl) ?_
    refine lv_aload_n hx hb d_Mod_check_5 rfl (lv_at hl 0 rfl) ?_
    refine kget (v := .int Mod_size) (T := F_Mod) E hw in_Mod rfl 0 7 rfl (by decide) tw442 rfl d_Mod_check_6 ?_
    refine lv_icmp_ge (tgt := 67) hx hb d_Mod_check_9 (by decide) (fun c1 => ?_) (fun c1 => ?_)
    · have h := h.1 c1
      refine lv_aload_n hx hb d_Mod_check_67 rfl (lv_at hl 0 rfl) ?_
      refine lv_iload_n hx hb d_Mod_check_68 rfl (lv_at hl 1 rfl) ?_
      refine lv_iconst (v := (-1)) hx hb d_Mod_check_69 (by decide) ?_
      refine lv_ixor hx hb d_Mod_check_70 ?_
      refine kVv (y := y_Mod_four) (ws' := fun u2 => [e_Mod a Mod_thrown Mod_width Mod_height Mod_many u2.1 Mod_bit Mod_single Mod_runs Mod_longest, e_ar a n cI 17 u2.2]) (wr := []) (As := [.int (y2 ^^^ ((-1)))]) (rest := []) E hw (c_Mod_four (l := l) (dC := dC) (dI := dI) (cI := cI) (tb := tb) (a := a) (n := n) (Mod_thrown := Mod_thrown) (Mod_width := Mod_width) (Mod_height := Mod_height) (Mod_many := Mod_many) (Mod_size := Mod_size) (Mod_bit := Mod_bit) (Mod_single := Mod_single) (Mod_runs := Mod_runs) (Mod_longest := Mod_longest) (mf := mf) (x1 := y2 ^^^ ((-1))) h) tw520 tw522 tw23 tw44 tw523 1 (by decide) ⟨Nat.le_of_ble_eq_true rfl, Nat.le_of_ble_eq_true rfl⟩ ⟨Nat.le_of_ble_eq_true rfl, Nat.le_of_ble_eq_true rfl⟩ ⟨rfl, rfl⟩ rfl rfl 0 rfl [0, 1] [] [0, 1] rfl rfl rfl rfl (by decide) rfl (fun _ => rfl) hl.1 rfl rfl (Nat.le_of_ble_eq_true rfl) d_Mod_check_71 (fun u2 H locs h hw => ?_)
      exact retV (out := fun u => [e_Mod a Mod_thrown Mod_width Mod_height Mod_many u.1 Mod_bit Mod_single Mod_runs Mod_longest, e_ar a n cI 17 u.2]) (u := (u2.1, u2.2)) E hr hlk hw h d_Mod_check_74
    · have h := h.2 c1
      refine lv_iload_n hx hb d_Mod_check_12 rfl (lv_at hl 1 rfl) ?_
      refine lv_aload_n hx hb d_Mod_check_13 rfl (lv_at hl 0 rfl) ?_
      refine kget (v := .ref (a 17)) (T := F_Mod) E hw in_Mod rfl 0 6 rfl (by decide) tw441 rfl d_Mod_check_14 ?_
      refine lv_iload_n hx hb d_Mod_check_17 rfl (lv_at hl 2 rfl) ?_
      obtain ⟨b4, h⟩ := h
      refine kald E hw 1 rfl b4 d_Mod_check_18 ?_
      refine lv_ixor hx hb d_Mod_check_19 ?_
      refine lv_topi (fun z5 ez5 => ?_)
      have h := h z5 ez5
      refine lv_istore_n (lv' := [(2, .int z5), (0, .ref (a 7)), (3, .int y3)]) hx hb d_Mod_check_20 rfl hl (by decide) rfl (fun ls hl => ?_)
      refine lv_iconst (v := 0) hx hb d_Mod_check_21 (by decide) ?_
      refine lv_istore (lv' := [(4, .int 0), (2, .int z5), (0, .ref (a 7)), (3, .int y3)]) hx hb d_Mod_check_22 hl (by decide) rfl (fun ls hl => ?_)
      obtain ⟨N14, h⟩ := h
      exact s_Mod_check_24 (a := a) (n := n) (tb := tb) E hr hlk ih N14 Mod_size mf z5 y3 0 _ _ ls hw (lv_sub hl [2, 1, 3, 0] rfl) h
set_option maxHeartbeats 2000000 in
set_option maxRecDepth 20000 in
theorem c_Mod_check {l : Launch} {dC : Nat → ClassId} {dI : Nat → Nat → Nat} {cI : ClassId} {tb a n : Nat → Nat} {Mod_thrown : Int32} {Mod_width : Int32} {Mod_height : Int32} {Mod_many : Int32} {Mod_size : Int32} {Mod_bit : Int32} {Mod_single : Int32} {Mod_runs : Int32} {Mod_longest : Int32} {mf : Nat → Int32} {x1 : Int32} {post : Int32 × (Nat → Int32) → Prop} (h : wp_Mod_check n Mod_size mf x1 post) : CtV classes dC dI cI tb l y_Mod_check prog_9_method_15_code 6 ({ frames := 2, cells := 0, slots := 0, locals := 42 }) [.ref (a 7), .int x1] [e_Mod a Mod_thrown Mod_width Mod_height Mod_many Mod_size Mod_bit Mod_single Mod_runs Mod_longest, e_ar a n cI 17 mf] (Int32 × (Nat → Int32)) (fun u => [e_Mod a Mod_thrown Mod_width Mod_height Mod_many u.1 Mod_bit Mod_single Mod_runs Mod_longest, e_ar a n cI 17 u.2]) post := by
  refine startV (by decide) (Nat.le_of_ble_eq_true rfl) ?_
  intro p e s m below meth c ls E hr hlk hnm hl hw
  have hl : lv_has ls 6 [(0, .ref (a 7)), (1, .int x1)] := hl
  generalize va_A [e_Mod a Mod_thrown Mod_width Mod_height Mod_many Mod_size Mod_bit Mod_single Mod_runs Mod_longest, e_ar a n cI 17 mf] s.heap.size = A at hw ⊢
  obtain ⟨hx, hb, hml, hown, hts⟩ := id E
  unfold wp_Mod_check at h
  refine lv_iconst (v := (-1)) hx hb d_Mod_check_0 (by decide) ?_
  refine lv_istore_n (lv' := [(2, .int ((-1))), (0, .ref (a 7)), (1, .int x1)]) hx hb d_Mod_check_1 rfl hl (by decide) rfl (fun ls hl => ?_)
  refine lv_iload_n hx hb d_Mod_check_2 rfl (lv_at hl 2 rfl) ?_
  refine lv_istore_n (lv' := [(3, .int x1), (2, .int ((-1))), (0, .ref (a 7)), (1, .int x1)]) hx hb d_Mod_check_3 rfl hl (by decide) rfl (fun ls hl => ?_)
  obtain ⟨N15, h⟩ := h
  exact s_Mod_check_4 (a := a) (n := n) (tb := tb) E hr hlk  N15 Mod_size mf ((-1)) x1 _ _ ls hw (lv_sub hl [2, 1, 0] rfl) h
-- PicturePackerModel.next(I)V
theorem d_Mod_next_0 : decode prog_9_method_16_code 0 = .ok (.aload_n 0, 1) := by decide +kernel
theorem d_Mod_next_1 : decode prog_9_method_16_code 1 = .ok (.getfield 62, 3) := by decide +kernel
theorem d_Mod_next_4 : decode prog_9_method_16_code 4 = .ok (.ifCond .ne 8, 3) := by decide +kernel
theorem d_Mod_next_7 : decode prog_9_method_16_code 7 = .ok (.aload_n 0, 1) := by decide +kernel
theorem d_Mod_next_8 : decode prog_9_method_16_code 8 = .ok (.iconst 0, 1) := by decide +kernel
theorem d_Mod_next_9 : decode prog_9_method_16_code 9 = .ok (.invokevirtual 54, 3) := by decide +kernel
theorem d_Mod_next_12 : decode prog_9_method_16_code 12 = .ok (.aload_n 0, 1) := by decide +kernel
theorem d_Mod_next_13 : decode prog_9_method_16_code 13 = .ok (.getfield 16, 3) := by decide +kernel
theorem d_Mod_next_16 : decode prog_9_method_16_code 16 = .ok (.aload_n 0, 1) := by decide +kernel
theorem d_Mod_next_17 : decode prog_9_method_16_code 17 = .ok (.getfield 51, 3) := by decide +kernel
theorem d_Mod_next_20 : decode prog_9_method_16_code 20 = .ok (.iconst 1, 1) := by decide +kernel
theorem d_Mod_next_21 : decode prog_9_method_16_code 21 = .ok (.isub, 1) := by decide +kernel
theorem d_Mod_next_22 : decode prog_9_method_16_code 22 = .ok (.dup2, 1) := by decide +kernel
theorem d_Mod_next_23 : decode prog_9_method_16_code 23 = .ok (.iaload, 1) := by decide +kernel
theorem d_Mod_next_24 : decode prog_9_method_16_code 24 = .ok (.iload_n 1, 1) := by decide +kernel
theorem d_Mod_next_25 : decode prog_9_method_16_code 25 = .ok (.aload_n 0, 1) := by decide +kernel
theorem d_Mod_next_26 : decode prog_9_method_16_code 26 = .ok (.getfield 62, 3) := by decide +kernel
theorem d_Mod_next_29 : decode prog_9_method_16_code 29 = .ok (.ishl, 1) := by decide +kernel
theorem d_Mod_next_30 : decode prog_9_method_16_code 30 = .ok (.ior, 1) := by decide +kernel
theorem d_Mod_next_31 : decode prog_9_method_16_code 31 = .ok (.iastore, 1) := by decide +kernel
theorem d_Mod_next_32 : decode prog_9_method_16_code 32 = .ok (.aload_n 0, 1) := by decide +kernel
theorem d_Mod_next_33 : decode prog_9_method_16_code 33 = .ok (.aload_n 0, 1) := by decide +kernel
theorem d_Mod_next_34 : decode prog_9_method_16_code 34 = .ok (.getfield 62, 3) := by decide +kernel
theorem d_Mod_next_37 : decode prog_9_method_16_code 37 = .ok (.iconst 1, 1) := by decide +kernel
theorem d_Mod_next_38 : decode prog_9_method_16_code 38 = .ok (.iadd, 1) := by decide +kernel
theorem d_Mod_next_39 : decode prog_9_method_16_code 39 = .ok (.bipush 8, 2) := by decide +kernel
theorem d_Mod_next_41 : decode prog_9_method_16_code 41 = .ok (.irem, 1) := by decide +kernel
theorem d_Mod_next_42 : decode prog_9_method_16_code 42 = .ok (.putfield 62, 3) := by decide +kernel
theorem d_Mod_next_45 : decode prog_9_method_16_code 45 = .ok (.return_, 1) := by decide +kernel
abbrev y_Mod_next : MethodName := ⟨"PicturePackerModel", "next", "(I)V"⟩
def wp_Mod_next_12 (n : Nat → Nat) (x1 : Int32) (post : Int32 × Int32 × (Nat → Int32) → Prop) (Mod_size : Int32) (Mod_bit : Int32) (mf : Nat → Int32) : Prop := vp_in (Mod_size - 1) (n 17) ∧ (∀ z3 : Int32, z3 = ((mf (Mod_size - 1 : Int32).toNatClampNeg) ||| ((x1 : Int32) <<< (Mod_bit &&& 31))) → (vp_in (Mod_size - 1) (n 17) ∧ (∀ f5 : Nat → Int32, f5 = upd mf (Mod_size - 1 : Int32).toNatClampNeg z3 → (∀ z6 : Int32, z6 = ((Mod_bit + 1) - (Mod_bit + 1) / 8 * 8) → (post (Mod_size, z6, f5))))))
def wp_Mod_next (n : Nat → Nat) (Mod_size : Int32) (Mod_bit : Int32) (mf : Nat → Int32) (x1 : Int32) (post : Int32 × Int32 × (Nat → Int32) → Prop) : Prop := (¬ (Mod_bit : Int32) = 0 → (wp_Mod_next_12 n x1 post Mod_size Mod_bit mf)) ∧ ((Mod_bit : Int32) = 0 → (wp_Mod_one n Mod_size mf 0 (fun u7 => wp_Mod_next_12 n x1 post u7.1 Mod_bit u7.2)))
set_option maxHeartbeats 2000000 in
set_option maxRecDepth 20000 in
theorem s_Mod_next_12 {l : Launch} {dC : Nat → ClassId} {dI : Nat → Nat → Nat} {cI : ClassId} {tb a n : Nat → Nat} {p : Program} {e : Env} {s : State} {m : MethodId} {args : Array Value} {below : List Frame} {meth : Method} {c : Code} {A : Nat → Prop} (E : CallFix p m c prog_9_method_16_code 2 s args TBL "PicturePackerModel") (hr : meth.sig.returnType = none) (hlk : meth.locks = false) {Mod_thrown : Int32} {Mod_width : Int32} {Mod_height : Int32} {Mod_many : Int32} {Mod_single : Int32} {Mod_runs : Int32} {Mod_longest : Int32} {x1 : Int32} {post : Int32 × Int32 × (Nat → Int32) → Prop} : ∀ (Mod_size : Int32) (Mod_bit : Int32) (mf : Nat → Int32) (H : Heap) (locs : List Loc) (ls : Array Slot), Wl classes dC dI cI tb A s H locs [e_Mod a Mod_thrown Mod_width Mod_height Mod_many Mod_size Mod_bit Mod_single Mod_runs Mod_longest, e_ar a n cI 17 mf] → lv_has ls 2 [(0, .ref (a 7)), (1, .int x1)] → wp_Mod_next_12 n x1 post Mod_size Mod_bit mf → W p l e ({ frames := 1, cells := 0, slots := 0, locals := 21 }) s m args below meth c H locs 0 0 (MQ below (va_Qv post (fun u => End0 classes dC dI cI A [e_Mod a Mod_thrown Mod_width Mod_height Mod_many u.1 u.2.1 Mod_single Mod_runs Mod_longest, e_ar a n cI 17 u.2.2]) A) args s 0 0 A) (F0 m 12 ls []) := by
  obtain ⟨hx, hb, hml, hown, hts⟩ := id E
  intro Mod_size Mod_bit mf H locs ls hw hl h
  unfold wp_Mod_next_12 at h
  refine lv_aload_n hx hb d_Mod_next_12 rfl (lv_at hl 0 rfl) ?_
  refine kget (v := .ref (a 17)) (T := F_Mod) E hw in_Mod rfl 0 6 rfl (by decide) tw441 rfl d_Mod_next_13 ?_
  refine lv_aload_n hx hb d_Mod_next_16 rfl (lv_at hl 0 rfl) ?_
  refine kget (v := .int Mod_size) (T := F_Mod) E hw in_Mod rfl 0 7 rfl (by decide) tw442 rfl d_Mod_next_17 ?_
  refine lv_iconst (v := 1) hx hb d_Mod_next_20 (by decide) ?_
  refine lv_isub hx hb d_Mod_next_21 ?_
  refine lv_dup2_11 hx hb d_Mod_next_22 rfl rfl ?_
  obtain ⟨b2, h⟩ := h
  refine kald E hw 1 rfl b2 d_Mod_next_23 ?_
  refine lv_iload_n hx hb d_Mod_next_24 rfl (lv_at hl 1 rfl) ?_
  refine lv_aload_n hx hb d_Mod_next_25 rfl (lv_at hl 0 rfl) ?_
  refine kget (v := .int Mod_bit) (T := F_Mod) E hw in_Mod rfl 0 8 rfl (by decide) tw443 rfl d_Mod_next_26 ?_
  refine lv_ishl hx hb d_Mod_next_29 ?_
  refine lv_ior hx hb d_Mod_next_30 ?_
  refine lv_topi (fun z3 ez3 => ?_)
  have h := h z3 ez3
  obtain ⟨b4, h⟩ := h
  obtain ⟨f5, ef5⟩ : ∃ z : Nat → Int32, z = upd mf (Mod_size - 1 : Int32).toNatClampNeg z3 := ⟨_, rfl⟩
  have h := h f5 ef5
  refine kast (ws' := [e_Mod a Mod_thrown Mod_width Mod_height Mod_many Mod_size Mod_bit Mod_single Mod_runs Mod_longest, e_ar a n cI 17 f5]) E hw 1 rfl b4 (by rw [ef5]; rfl) d_Mod_next_31 (fun H locs hw => ?_)
  refine lv_aload_n hx hb d_Mod_next_32 rfl (lv_at hl 0 rfl) ?_
  refine lv_aload_n hx hb d_Mod_next_33 rfl (lv_at hl 0 rfl) ?_
  refine kget (v := .int Mod_bit) (T := F_Mod) E hw in_Mod rfl 0 8 rfl (by decide) tw443 rfl d_Mod_next_34 ?_
  refine lv_iconst (v := 1) hx hb d_Mod_next_37 (by decide) ?_
  refine lv_iadd hx hb d_Mod_next_38 ?_
  refine lv_bipush (v := 8) hx hb d_Mod_next_39 (by decide) ?_
  refine lv_irem hx hb d_Mod_next_41 (by decide) ?_
  refine lv_topi (fun z6 ez6 => ?_)
  have h := h z6 ez6
  refine kput (v := .int z6) (ty := .int) (T := F_Mod) (ws' := [e_Mod a Mod_thrown Mod_width Mod_height Mod_many Mod_size z6 Mod_single Mod_runs Mod_longest, e_ar a n cI 17 f5]) E hw in_Mod t_Mod t_Mod_ok n_Mod rfl 0 8 rfl (by decide) tw443 rfl rfl rfl rfl (Nat.le_of_ble_eq_true rfl) rfl d_Mod_next_42 (fun H locs hw => ?_)
  exact retV (out := fun u => [e_Mod a Mod_thrown Mod_width Mod_height Mod_many u.1 u.2.1 Mod_single Mod_runs Mod_longest, e_ar a n cI 17 u.2.2]) (u := (Mod_size, z6, f5)) E hr hlk hw h d_Mod_next_45
set_option maxHeartbeats 2000000 in
set_option maxRecDepth 20000 in
theorem c_Mod_next {l : Launch} {dC : Nat → ClassId} {dI : Nat → Nat → Nat} {cI : ClassId} {tb a n : Nat → Nat} {Mod_thrown : Int32} {Mod_width : Int32} {Mod_height : Int32} {Mod_many : Int32} {Mod_size : Int32} {Mod_bit : Int32} {Mod_single : Int32} {Mod_runs : Int32} {Mod_longest : Int32} {mf : Nat → Int32} {x1 : Int32} {post : Int32 × Int32 × (Nat → Int32) → Prop} (h : wp_Mod_next n Mod_size Mod_bit mf x1 post) : CtV classes dC dI cI tb l y_Mod_next prog_9_method_16_code 2 ({ frames := 1, cells := 0, slots := 0, locals := 21 }) [.ref (a 7), .int x1] [e_Mod a Mod_thrown Mod_width Mod_height Mod_many Mod_size Mod_bit Mod_single Mod_runs Mod_longest, e_ar a n cI 17 mf] (Int32 × Int32 × (Nat → Int32)) (fun u => [e_Mod a Mod_thrown Mod_width Mod_height Mod_many u.1 u.2.1 Mod_single Mod_runs Mod_longest, e_ar a n cI 17 u.2.2]) post := by
  refine startV (by decide) (Nat.le_of_ble_eq_true rfl) ?_
  intro p e s m below meth c ls E hr hlk hnm hl hw
  have hl : lv_has ls 2 [(0, .ref (a 7)), (1, .int x1)] := hl
  generalize va_A [e_Mod a Mod_thrown Mod_width Mod_height Mod_many Mod_size Mod_bit Mod_single Mod_runs Mod_longest, e_ar a n cI 17 mf] s.heap.size = A at hw ⊢
  obtain ⟨hx, hb, hml, hown, hts⟩ := id E
  unfold wp_Mod_next at h
  refine lv_aload_n hx hb d_Mod_next_0 rfl (lv_at hl 0 rfl) ?_
  refine kget (v := .int Mod_bit) (T := F_Mod) E hw in_Mod rfl 0 8 rfl (by decide) tw443 rfl d_Mod_next_1 ?_
  refine lv_if_ne (tgt := 12) hx hb d_Mod_next_4 (by decide) (fun c1 => ?_) (fun c1 => ?_)
  · have h := h.1 c1
    exact s_Mod_next_12 (a := a) (n := n) (tb := tb) E hr hlk  Mod_size Mod_bit mf _ _ ls hw (lv_sub hl [0, 1] rfl) h
  · have h := h.2 c1
    refine lv_aload_n hx hb d_Mod_next_7 rfl (lv_at hl 0 rfl) ?_
    refine lv_iconst (v := 0) hx hb d_Mod_next_8 (by decide) ?_
    refine kVv (y := y_Mod_one) (ws' := fun u7 => [e_Mod a Mod_thrown Mod_width Mod_height Mod_many u7.1 Mod_bit Mod_single Mod_runs Mod_longest, e_ar a n cI 17 u7.2]) (wr := []) (As := [.int 0]) (rest := []) E hw (c_Mod_one (l := l) (dC := dC) (dI := dI) (cI := cI) (tb := tb) (a := a) (n := n) (Mod_thrown := Mod_thrown) (Mod_width := Mod_width) (Mod_height := Mod_height) (Mod_many := Mod_many) (Mod_size := Mod_size) (Mod_bit := Mod_bit) (Mod_single := Mod_single) (Mod_runs := Mod_runs) (Mod_longest := Mod_longest) (mf := mf) (x1 := 0) h) tw516 tw518 tw22 tw44 tw519 1 (by decide) ⟨Nat.le_of_ble_eq_true rfl, Nat.le_of_ble_eq_true rfl⟩ ⟨Nat.le_of_ble_eq_true rfl, Nat.le_of_ble_eq_true rfl⟩ ⟨rfl, rfl⟩ rfl rfl 0 rfl [0, 1] [] [0, 1] rfl rfl rfl rfl (by decide) rfl (fun _ => rfl) hl.1 rfl rfl (Nat.le_of_ble_eq_true rfl) d_Mod_next_9 (fun u7 H locs h hw => ?_)
    exact s_Mod_next_12 (a := a) (n := n) (tb := tb) E hr hlk  u7.1 Mod_bit u7.2 _ _ ls hw (lv_sub hl [0, 1] rfl) h
-- PicturePackerModel.highest(II)V
theorem d_Mod_highest_0 : decode prog_9_method_17_code 0 = .ok (.iload_n 2, 1) := by decide +kernel
theorem d_Mod_highest_1 : decode prog_9_method_17_code 1 = .ok (.iconst 1, 1) := by decide +kernel
theorem d_Mod_highest_2 : decode prog_9_method_17_code 2 = .ok (.isub, 1) := by decide +kernel
theorem d_Mod_highest_3 : decode prog_9_method_17_code 3 = .ok (.istore_n 3, 1) := by decide +kernel
theorem d_Mod_highest_4 : decode prog_9_method_17_code 4 = .ok (.iload_n 3, 1) := by decide +kernel
theorem d_Mod_highest_5 : decode prog_9_method_17_code 5 = .ok (.ifCond .lt 18, 3) := by decide +kernel
theorem d_Mod_highest_8 : decode prog_9_method_17_code 8 = .ok (.aload_n 0, 1) := by decide +kernel
theorem d_Mod_highest_9 : decode prog_9_method_17_code 9 = .ok (.iload_n 1, 1) := by decide +kernel
theorem d_Mod_highest_10 : decode prog_9_method_17_code 10 = .ok (.iload_n 3, 1) := by decide +kernel
theorem d_Mod_highest_11 : decode prog_9_method_17_code 11 = .ok (.ishr, 1) := by decide +kernel
theorem d_Mod_highest_12 : decode prog_9_method_17_code 12 = .ok (.iconst 1, 1) := by decide +kernel
theorem d_Mod_highest_13 : decode prog_9_method_17_code 13 = .ok (.iand, 1) := by decide +kernel
theorem d_Mod_highest_14 : decode prog_9_method_17_code 14 = .ok (.invokevirtual 65, 3) := by decide +kernel
theorem d_Mod_highest_17 : decode prog_9_method_17_code 17 = .ok (.iinc 3 (-1), 3) := by decide +kernel
theorem d_Mod_highest_20 : decode prog_9_method_17_code 20 = .ok (.goto (-16), 3) := by decide +kernel
theorem d_Mod_highest_23 : decode prog_9_method_17_code 23 = .ok (.return_, 1) := by decide +kernel
abbrev y_Mod_highest : MethodName := ⟨"PicturePackerModel", "highest", "(II)V"⟩
def wp_Mod_highest_4 (n : Nat → Nat) (x1 : Int32) (x2 : Int32) (post : Int32 × Int32 × (Nat → Int32) → Prop) : Nat → Int32 → Int32 → (Nat → Int32) → Int32 → Prop
  | 0 => fun _ _ _ _ => False
  | N + 1 => fun Mod_size Mod_bit mf y3 => ((y3 : Int32) < 0 → (post (Mod_size, Mod_bit, mf))) ∧ (¬ ((y3 : Int32) < 0) → (wp_Mod_next n Mod_size Mod_bit mf (((x1 : Int32) >>> (y3 &&& 31)) &&& 1) (fun u3 => ∀ z5 : Int32, z5 = (y3 + (-1)) → (wp_Mod_highest_4 n x1 x2 post N u3.1 u3.2.1 u3.2.2 z5))))
def wp_Mod_highest (n : Nat → Nat) (Mod_size : Int32) (Mod_bit : Int32) (mf : Nat → Int32) (x1 : Int32) (x2 : Int32) (post : Int32 × Int32 × (Nat → Int32) → Prop) : Prop := ∀ z1 : Int32, z1 = (x2 - 1) → (∃ N6 : Nat, wp_Mod_highest_4 n x1 x2 post N6 Mod_size Mod_bit mf z1)
set_option maxHeartbeats 2000000 in
set_option maxRecDepth 20000 in
theorem s_Mod_highest_4 {l : Launch} {dC : Nat → ClassId} {dI : Nat → Nat → Nat} {cI : ClassId} {tb a n : Nat → Nat} {p : Program} {e : Env} {s : State} {m : MethodId} {args : Array Value} {below : List Frame} {meth : Method} {c : Code} {A : Nat → Prop} (E : CallFix p m c prog_9_method_17_code 4 s args TBL "PicturePackerModel") (hr : meth.sig.returnType = none) (hlk : meth.locks = false) {Mod_thrown : Int32} {Mod_width : Int32} {Mod_height : Int32} {Mod_many : Int32} {Mod_single : Int32} {Mod_runs : Int32} {Mod_longest : Int32} {x1 : Int32} {x2 : Int32} {post : Int32 × Int32 × (Nat → Int32) → Prop} : ∀ (N : Nat) (Mod_size : Int32) (Mod_bit : Int32) (mf : Nat → Int32) (y3 : Int32) (H : Heap) (locs : List Loc) (ls : Array Slot), Wl classes dC dI cI tb A s H locs [e_Mod a Mod_thrown Mod_width Mod_height Mod_many Mod_size Mod_bit Mod_single Mod_runs Mod_longest, e_ar a n cI 17 mf] → lv_has ls 4 [(0, .ref (a 7)), (1, .int x1), (3, .int y3)] → wp_Mod_highest_4 n x1 x2 post N Mod_size Mod_bit mf y3 → W p l e ({ frames := 2, cells := 0, slots := 0, locals := 42 }) s m args below meth c H locs 0 0 (MQ below (va_Qv post (fun u => End0 classes dC dI cI A [e_Mod a Mod_thrown Mod_width Mod_height Mod_many u.1 u.2.1 Mod_single Mod_runs Mod_longest, e_ar a n cI 17 u.2.2]) A) args s 0 0 A) (F0 m 4 ls []) := by
  obtain ⟨hx, hb, hml, hown, hts⟩ := id E
  intro N
  induction N with
  | zero =>
    intro _ _ _ _ H locs ls hw hl h
    exact absurd h id
  | succ N ih =>
    intro Mod_size Mod_bit mf y3 H locs ls hw hl h
    unfold wp_Mod_highest_4 at h
    refine lv_iload_n hx hb d_Mod_highest_4 rfl (lv_at hl 2 rfl) ?_
    refine lv_if_lt (tgt := 23) hx hb d_Mod_highest_5 (by decide) (fun c2 => ?_) (fun c2 => ?_)
    · have h := h.1 c2
      exact retV (out := fun u => [e_Mod a Mod_thrown Mod_width Mod_height Mod_many u.1 u.2.1 Mod_single Mod_runs Mod_longest, e_ar a n cI 17 u.2.2]) (u := (Mod_size, Mod_bit, mf)) E hr hlk hw h d_Mod_highest_23
    · have h := h.2 c2
      refine lv_aload_n hx hb d_Mod_highest_8 rfl (lv_at hl 0 rfl) ?_
      refine lv_iload_n hx hb d_Mod_highest_9 rfl (lv_at hl 1 rfl) ?_
      refine lv_iload_n hx hb d_Mod_highest_10 rfl (lv_at hl 2 rfl) ?_
      refine lv_ishr hx hb d_Mod_highest_11 ?_
      refine lv_iconst (v := 1) hx hb d_Mod_highest_12 (by decide) ?_
      refine lv_iand hx hb d_Mod_highest_13 ?_
      refine kVv (y := y_Mod_next) (ws' := fun u3 => [e_Mod a Mod_thrown Mod_width Mod_height Mod_many u3.1 u3.2.1 Mod_single Mod_runs Mod_longest, e_ar a n cI 17 u3.2.2]) (wr := []) (As := [.int (((x1 : Int32) >>> (y3 &&& 31)) &&& 1)]) (rest := []) E hw (c_Mod_next (l := l) (dC := dC) (dI := dI) (cI := cI) (tb := tb) (a := a) (n := n) (Mod_thrown := Mod_thrown) (Mod_width := Mod_width) (Mod_height := Mod_height) (Mod_many := Mod_many) (Mod_size := Mod_size) (Mod_bit := Mod_bit) (Mod_single := Mod_single) (Mod_runs := Mod_runs) (Mod_longest := Mod_longest) (mf := mf) (x1 := ((x1 : Int32) >>> (y3 &&& 31)) &&& 1) h) tw533 tw535 tw26 tw44 tw536 1 (by decide) ⟨Nat.le_of_ble_eq_true rfl, Nat.le_of_ble_eq_true rfl⟩ ⟨Nat.le_of_ble_eq_true rfl, Nat.le_of_ble_eq_true rfl⟩ ⟨rfl, rfl⟩ rfl rfl 0 rfl [0, 1] [] [0, 1] rfl rfl rfl rfl (by decide) rfl (fun _ => rfl) hl.1 rfl rfl (Nat.le_of_ble_eq_true rfl) d_Mod_highest_14 (fun u3 H locs h hw => ?_)
      obtain ⟨z5, ez5⟩ : ∃ z : Int32, z = y3 + (-1) := ⟨_, rfl⟩
      have h := h z5 ez5
      refine lv_iinc (v := z5) (lv' := [(3, .int z5), (0, .ref (a 7)), (1, .int x1)]) hx hb d_Mod_highest_17 hl (k := 2) rfl (by rw [ez5]; exact congrArg (y3 + ·) (by decide)) (by decide) rfl (fun ls hl => ?_)
      refine lv_goto (tgt := 4) hx hb d_Mod_highest_20 (by decide) ?_
      exact ih u3.1 u3.2.1 u3.2.2 z5 _ _ ls hw (lv_sub hl [1, 2, 0] rfl) h
set_option maxHeartbeats 2000000 in
set_option maxRecDepth 20000 in
theorem c_Mod_highest {l : Launch} {dC : Nat → ClassId} {dI : Nat → Nat → Nat} {cI : ClassId} {tb a n : Nat → Nat} {Mod_thrown : Int32} {Mod_width : Int32} {Mod_height : Int32} {Mod_many : Int32} {Mod_size : Int32} {Mod_bit : Int32} {Mod_single : Int32} {Mod_runs : Int32} {Mod_longest : Int32} {mf : Nat → Int32} {x1 : Int32} {x2 : Int32} {post : Int32 × Int32 × (Nat → Int32) → Prop} (h : wp_Mod_highest n Mod_size Mod_bit mf x1 x2 post) : CtV classes dC dI cI tb l y_Mod_highest prog_9_method_17_code 4 ({ frames := 2, cells := 0, slots := 0, locals := 42 }) [.ref (a 7), .int x1, .int x2] [e_Mod a Mod_thrown Mod_width Mod_height Mod_many Mod_size Mod_bit Mod_single Mod_runs Mod_longest, e_ar a n cI 17 mf] (Int32 × Int32 × (Nat → Int32)) (fun u => [e_Mod a Mod_thrown Mod_width Mod_height Mod_many u.1 u.2.1 Mod_single Mod_runs Mod_longest, e_ar a n cI 17 u.2.2]) post := by
  refine startV (by decide) (Nat.le_of_ble_eq_true rfl) ?_
  intro p e s m below meth c ls E hr hlk hnm hl hw
  have hl : lv_has ls 4 [(0, .ref (a 7)), (1, .int x1), (2, .int x2)] := hl
  generalize va_A [e_Mod a Mod_thrown Mod_width Mod_height Mod_many Mod_size Mod_bit Mod_single Mod_runs Mod_longest, e_ar a n cI 17 mf] s.heap.size = A at hw ⊢
  obtain ⟨hx, hb, hml, hown, hts⟩ := id E
  unfold wp_Mod_highest at h
  refine lv_iload_n hx hb d_Mod_highest_0 rfl (lv_at hl 2 rfl) ?_
  refine lv_iconst (v := 1) hx hb d_Mod_highest_1 (by decide) ?_
  refine lv_isub hx hb d_Mod_highest_2 ?_
  refine lv_topi (fun z1 ez1 => ?_)
  have h := h z1 ez1
  refine lv_istore_n (lv' := [(3, .int z1), (0, .ref (a 7)), (1, .int x1), (2, .int x2)]) hx hb d_Mod_highest_3 rfl hl (by decide) rfl (fun ls hl => ?_)
  obtain ⟨N6, h⟩ := h
  exact s_Mod_highest_4 (a := a) (n := n) (tb := tb) E hr hlk  N6 Mod_size Mod_bit mf z1 _ _ ls hw (lv_sub hl [1, 2, 0] rfl) h
-- PicturePackerModel.lowest(II)V
theorem d_Mod_lowest_0 : decode prog_9_method_18_code 0 = .ok (.iconst 0, 1) := by decide +kernel
theorem d_Mod_lowest_1 : decode prog_9_method_18_code 1 = .ok (.istore_n 3, 1) := by decide +kernel
theorem d_Mod_lowest_2 : decode prog_9_method_18_code 2 = .ok (.iload_n 3, 1) := by decide +kernel
theorem d_Mod_lowest_3 : decode prog_9_method_18_code 3 = .ok (.iload_n 2, 1) := by decide +kernel
theorem d_Mod_lowest_4 : decode prog_9_method_18_code 4 = .ok (.if_icmp .ge 18, 3) := by decide +kernel
theorem d_Mod_lowest_7 : decode prog_9_method_18_code 7 = .ok (.aload_n 0, 1) := by decide +kernel
theorem d_Mod_lowest_8 : decode prog_9_method_18_code 8 = .ok (.iload_n 1, 1) := by decide +kernel
theorem d_Mod_lowest_9 : decode prog_9_method_18_code 9 = .ok (.iload_n 3, 1) := by decide +kernel
theorem d_Mod_lowest_10 : decode prog_9_method_18_code 10 = .ok (.ishr, 1) := by decide +kernel
theorem d_Mod_lowest_11 : decode prog_9_method_18_code 11 = .ok (.iconst 1, 1) := by decide +kernel
theorem d_Mod_lowest_12 : decode prog_9_method_18_code 12 = .ok (.iand, 1) := by decide +kernel
theorem d_Mod_lowest_13 : decode prog_9_method_18_code 13 = .ok (.invokevirtual 65, 3) := by decide +kernel
theorem d_Mod_lowest_16 : decode prog_9_method_18_code 16 = .ok (.iinc 3 1, 3) := by decide +kernel
theorem d_Mod_lowest_19 : decode prog_9_method_18_code 19 = .ok (.goto (-17), 3) := by decide +kernel
theorem d_Mod_lowest_22 : decode prog_9_method_18_code 22 = .ok (.return_, 1) := by decide +kernel
abbrev y_Mod_lowest : MethodName := ⟨"PicturePackerModel", "lowest", "(II)V"⟩
def wp_Mod_lowest_2 (n : Nat → Nat) (x1 : Int32) (x2 : Int32) (post : Int32 × Int32 × (Nat → Int32) → Prop) : Nat → Int32 → Int32 → (Nat → Int32) → Int32 → Prop
  | 0 => fun _ _ _ _ => False
  | N + 1 => fun Mod_size Mod_bit mf y3 => ((x2 : Int32) ≤ y3 → (post (Mod_size, Mod_bit, mf))) ∧ (¬ ((x2 : Int32) ≤ y3) → (wp_Mod_next n Mod_size Mod_bit mf (((x1 : Int32) >>> (y3 &&& 31)) &&& 1) (fun u2 => ∀ z4 : Int32, z4 = (y3 + 1) → (wp_Mod_lowest_2 n x1 x2 post N u2.1 u2.2.1 u2.2.2 z4))))
def wp_Mod_lowest (n : Nat → Nat) (Mod_size : Int32) (Mod_bit : Int32) (mf : Nat → Int32) (x1 : Int32) (x2 : Int32) (post : Int32 × Int32 × (Nat → Int32) → Prop) : Prop := ∃ N5 : Nat, wp_Mod_lowest_2 n x1 x2 post N5 Mod_size Mod_bit mf 0
set_option maxHeartbeats 2000000 in
set_option maxRecDepth 20000 in
theorem s_Mod_lowest_2 {l : Launch} {dC : Nat → ClassId} {dI : Nat → Nat → Nat} {cI : ClassId} {tb a n : Nat → Nat} {p : Program} {e : Env} {s : State} {m : MethodId} {args : Array Value} {below : List Frame} {meth : Method} {c : Code} {A : Nat → Prop} (E : CallFix p m c prog_9_method_18_code 4 s args TBL "PicturePackerModel") (hr : meth.sig.returnType = none) (hlk : meth.locks = false) {Mod_thrown : Int32} {Mod_width : Int32} {Mod_height : Int32} {Mod_many : Int32} {Mod_single : Int32} {Mod_runs : Int32} {Mod_longest : Int32} {x1 : Int32} {x2 : Int32} {post : Int32 × Int32 × (Nat → Int32) → Prop} : ∀ (N : Nat) (Mod_size : Int32) (Mod_bit : Int32) (mf : Nat → Int32) (y3 : Int32) (H : Heap) (locs : List Loc) (ls : Array Slot), Wl classes dC dI cI tb A s H locs [e_Mod a Mod_thrown Mod_width Mod_height Mod_many Mod_size Mod_bit Mod_single Mod_runs Mod_longest, e_ar a n cI 17 mf] → lv_has ls 4 [(0, .ref (a 7)), (1, .int x1), (2, .int x2), (3, .int y3)] → wp_Mod_lowest_2 n x1 x2 post N Mod_size Mod_bit mf y3 → W p l e ({ frames := 2, cells := 0, slots := 0, locals := 42 }) s m args below meth c H locs 0 0 (MQ below (va_Qv post (fun u => End0 classes dC dI cI A [e_Mod a Mod_thrown Mod_width Mod_height Mod_many u.1 u.2.1 Mod_single Mod_runs Mod_longest, e_ar a n cI 17 u.2.2]) A) args s 0 0 A) (F0 m 2 ls []) := by
  obtain ⟨hx, hb, hml, hown, hts⟩ := id E
  intro N
  induction N with
  | zero =>
    intro _ _ _ _ H locs ls hw hl h
    exact absurd h id
  | succ N ih =>
    intro Mod_size Mod_bit mf y3 H locs ls hw hl h
    unfold wp_Mod_lowest_2 at h
    refine lv_iload_n hx hb d_Mod_lowest_2 rfl (lv_at hl 3 rfl) ?_
    refine lv_iload_n hx hb d_Mod_lowest_3 rfl (lv_at hl 2 rfl) ?_
    refine lv_icmp_ge (tgt := 22) hx hb d_Mod_lowest_4 (by decide) (fun c1 => ?_) (fun c1 => ?_)
    · have h := h.1 c1
      exact retV (out := fun u => [e_Mod a Mod_thrown Mod_width Mod_height Mod_many u.1 u.2.1 Mod_single Mod_runs Mod_longest, e_ar a n cI 17 u.2.2]) (u := (Mod_size, Mod_bit, mf)) E hr hlk hw h d_Mod_lowest_22
    · have h := h.2 c1
      refine lv_aload_n hx hb d_Mod_lowest_7 rfl (lv_at hl 0 rfl) ?_
      refine lv_iload_n hx hb d_Mod_lowest_8 rfl (lv_at hl 1 rfl) ?_
      refine lv_iload_n hx hb d_Mod_lowest_9 rfl (lv_at hl 3 rfl) ?_
      refine lv_ishr hx hb d_Mod_lowest_10 ?_
      refine lv_iconst (v := 1) hx hb d_Mod_lowest_11 (by decide) ?_
      refine lv_iand hx hb d_Mod_lowest_12 ?_
      refine kVv (y := y_Mod_next) (ws' := fun u2 => [e_Mod a Mod_thrown Mod_width Mod_height Mod_many u2.1 u2.2.1 Mod_single Mod_runs Mod_longest, e_ar a n cI 17 u2.2.2]) (wr := []) (As := [.int (((x1 : Int32) >>> (y3 &&& 31)) &&& 1)]) (rest := []) E hw (c_Mod_next (l := l) (dC := dC) (dI := dI) (cI := cI) (tb := tb) (a := a) (n := n) (Mod_thrown := Mod_thrown) (Mod_width := Mod_width) (Mod_height := Mod_height) (Mod_many := Mod_many) (Mod_size := Mod_size) (Mod_bit := Mod_bit) (Mod_single := Mod_single) (Mod_runs := Mod_runs) (Mod_longest := Mod_longest) (mf := mf) (x1 := ((x1 : Int32) >>> (y3 &&& 31)) &&& 1) h) tw533 tw535 tw26 tw44 tw536 1 (by decide) ⟨Nat.le_of_ble_eq_true rfl, Nat.le_of_ble_eq_true rfl⟩ ⟨Nat.le_of_ble_eq_true rfl, Nat.le_of_ble_eq_true rfl⟩ ⟨rfl, rfl⟩ rfl rfl 0 rfl [0, 1] [] [0, 1] rfl rfl rfl rfl (by decide) rfl (fun _ => rfl) hl.1 rfl rfl (Nat.le_of_ble_eq_true rfl) d_Mod_lowest_13 (fun u2 H locs h hw => ?_)
      obtain ⟨z4, ez4⟩ : ∃ z : Int32, z = y3 + 1 := ⟨_, rfl⟩
      have h := h z4 ez4
      refine lv_iinc (v := z4) (lv' := [(3, .int z4), (0, .ref (a 7)), (1, .int x1), (2, .int x2)]) hx hb d_Mod_lowest_16 hl (k := 3) rfl (by rw [ez4]; exact congrArg (y3 + ·) (by decide)) (by decide) rfl (fun ls hl => ?_)
      refine lv_goto (tgt := 2) hx hb d_Mod_lowest_19 (by decide) ?_
      exact ih u2.1 u2.2.1 u2.2.2 z4 _ _ ls hw (lv_sub hl [1, 2, 3, 0] rfl) h
set_option maxHeartbeats 2000000 in
set_option maxRecDepth 20000 in
theorem c_Mod_lowest {l : Launch} {dC : Nat → ClassId} {dI : Nat → Nat → Nat} {cI : ClassId} {tb a n : Nat → Nat} {Mod_thrown : Int32} {Mod_width : Int32} {Mod_height : Int32} {Mod_many : Int32} {Mod_size : Int32} {Mod_bit : Int32} {Mod_single : Int32} {Mod_runs : Int32} {Mod_longest : Int32} {mf : Nat → Int32} {x1 : Int32} {x2 : Int32} {post : Int32 × Int32 × (Nat → Int32) → Prop} (h : wp_Mod_lowest n Mod_size Mod_bit mf x1 x2 post) : CtV classes dC dI cI tb l y_Mod_lowest prog_9_method_18_code 4 ({ frames := 2, cells := 0, slots := 0, locals := 42 }) [.ref (a 7), .int x1, .int x2] [e_Mod a Mod_thrown Mod_width Mod_height Mod_many Mod_size Mod_bit Mod_single Mod_runs Mod_longest, e_ar a n cI 17 mf] (Int32 × Int32 × (Nat → Int32)) (fun u => [e_Mod a Mod_thrown Mod_width Mod_height Mod_many u.1 u.2.1 Mod_single Mod_runs Mod_longest, e_ar a n cI 17 u.2.2]) post := by
  refine startV (by decide) (Nat.le_of_ble_eq_true rfl) ?_
  intro p e s m below meth c ls E hr hlk hnm hl hw
  have hl : lv_has ls 4 [(0, .ref (a 7)), (1, .int x1), (2, .int x2)] := hl
  generalize va_A [e_Mod a Mod_thrown Mod_width Mod_height Mod_many Mod_size Mod_bit Mod_single Mod_runs Mod_longest, e_ar a n cI 17 mf] s.heap.size = A at hw ⊢
  obtain ⟨hx, hb, hml, hown, hts⟩ := id E
  unfold wp_Mod_lowest at h
  refine lv_iconst (v := 0) hx hb d_Mod_lowest_0 (by decide) ?_
  refine lv_istore_n (lv' := [(3, .int 0), (0, .ref (a 7)), (1, .int x1), (2, .int x2)]) hx hb d_Mod_lowest_1 rfl hl (by decide) rfl (fun ls hl => ?_)
  obtain ⟨N5, h⟩ := h
  exact s_Mod_lowest_2 (a := a) (n := n) (tb := tb) E hr hlk  N5 Mod_size Mod_bit mf 0 _ _ ls hw (lv_sub hl [1, 2, 3, 0] rfl) h
-- PicturePackerModel.sign(I)V
theorem d_Mod_sign_0 : decode prog_9_method_19_code 0 = .ok (.iload_n 1, 1) := by decide +kernel
theorem d_Mod_sign_1 : decode prog_9_method_19_code 1 = .ok (.sipush 144, 3) := by decide +kernel
theorem d_Mod_sign_4 : decode prog_9_method_19_code 4 = .ok (.if_icmp .ge 16, 3) := by decide +kernel
theorem d_Mod_sign_7 : decode prog_9_method_19_code 7 = .ok (.aload_n 0, 1) := by decide +kernel
theorem d_Mod_sign_8 : decode prog_9_method_19_code 8 = .ok (.bipush 48, 2) := by decide +kernel
theorem d_Mod_sign_10 : decode prog_9_method_19_code 10 = .ok (.iload_n 1, 1) := by decide +kernel
theorem d_Mod_sign_11 : decode prog_9_method_19_code 11 = .ok (.iadd, 1) := by decide +kernel
theorem d_Mod_sign_12 : decode prog_9_method_19_code 12 = .ok (.bipush 8, 2) := by decide +kernel
theorem d_Mod_sign_14 : decode prog_9_method_19_code 14 = .ok (.invokevirtual 68, 3) := by decide +kernel
theorem d_Mod_sign_17 : decode prog_9_method_19_code 17 = .ok (.goto 64, 3) := by decide +kernel
theorem d_Mod_sign_20 : decode prog_9_method_19_code 20 = .ok (.iload_n 1, 1) := by decide +kernel
theorem d_Mod_sign_21 : decode prog_9_method_19_code 21 = .ok (.sipush 256, 3) := by decide +kernel
theorem d_Mod_sign_24 : decode prog_9_method_19_code 24 = .ok (.if_icmp .ge 21, 3) := by decide +kernel
theorem d_Mod_sign_27 : decode prog_9_method_19_code 27 = .ok (.aload_n 0, 1) := by decide +kernel
theorem d_Mod_sign_28 : decode prog_9_method_19_code 28 = .ok (.sipush 400, 3) := by decide +kernel
theorem d_Mod_sign_31 : decode prog_9_method_19_code 31 = .ok (.iload_n 1, 1) := by decide +kernel
theorem d_Mod_sign_32 : decode prog_9_method_19_code 32 = .ok (.iadd, 1) := by decide +kernel
theorem d_Mod_sign_33 : decode prog_9_method_19_code 33 = .ok (.sipush 144, 3) := by decide +kernel
theorem d_Mod_sign_36 : decode prog_9_method_19_code 36 = .ok (.isub, 1) := by decide +kernel
theorem d_Mod_sign_37 : decode prog_9_method_19_code 37 = .ok (.bipush 9, 2) := by decide +kernel
theorem d_Mod_sign_39 : decode prog_9_method_19_code 39 = .ok (.invokevirtual 68, 3) := by decide +kernel
theorem d_Mod_sign_42 : decode prog_9_method_19_code 42 = .ok (.goto 39, 3) := by decide +kernel
theorem d_Mod_sign_45 : decode prog_9_method_19_code 45 = .ok (.iload_n 1, 1) := by decide +kernel
theorem d_Mod_sign_46 : decode prog_9_method_19_code 46 = .ok (.sipush 280, 3) := by decide +kernel
theorem d_Mod_sign_49 : decode prog_9_method_19_code 49 = .ok (.if_icmp .ge 17, 3) := by decide +kernel
theorem d_Mod_sign_52 : decode prog_9_method_19_code 52 = .ok (.aload_n 0, 1) := by decide +kernel
theorem d_Mod_sign_53 : decode prog_9_method_19_code 53 = .ok (.iload_n 1, 1) := by decide +kernel
theorem d_Mod_sign_54 : decode prog_9_method_19_code 54 = .ok (.sipush 256, 3) := by decide +kernel
theorem d_Mod_sign_57 : decode prog_9_method_19_code 57 = .ok (.isub, 1) := by decide +kernel
theorem d_Mod_sign_58 : decode prog_9_method_19_code 58 = .ok (.bipush 7, 2) := by decide +kernel
theorem d_Mod_sign_60 : decode prog_9_method_19_code 60 = .ok (.invokevirtual 68, 3) := by decide +kernel
theorem d_Mod_sign_63 : decode prog_9_method_19_code 63 = .ok (.goto 18, 3) := by decide +kernel
theorem d_Mod_sign_66 : decode prog_9_method_19_code 66 = .ok (.aload_n 0, 1) := by decide +kernel
theorem d_Mod_sign_67 : decode prog_9_method_19_code 67 = .ok (.sipush 192, 3) := by decide +kernel
theorem d_Mod_sign_70 : decode prog_9_method_19_code 70 = .ok (.iload_n 1, 1) := by decide +kernel
theorem d_Mod_sign_71 : decode prog_9_method_19_code 71 = .ok (.iadd, 1) := by decide +kernel
theorem d_Mod_sign_72 : decode prog_9_method_19_code 72 = .ok (.sipush 280, 3) := by decide +kernel
theorem d_Mod_sign_75 : decode prog_9_method_19_code 75 = .ok (.isub, 1) := by decide +kernel
theorem d_Mod_sign_76 : decode prog_9_method_19_code 76 = .ok (.bipush 8, 2) := by decide +kernel
theorem d_Mod_sign_78 : decode prog_9_method_19_code 78 = .ok (.invokevirtual 68, 3) := by decide +kernel
theorem d_Mod_sign_81 : decode prog_9_method_19_code 81 = .ok (.return_, 1) := by decide +kernel
abbrev y_Mod_sign : MethodName := ⟨"PicturePackerModel", "sign", "(I)V"⟩
def wp_Mod_sign (n : Nat → Nat) (Mod_size : Int32) (Mod_bit : Int32) (mf : Nat → Int32) (x1 : Int32) (post : Int32 × Int32 × (Nat → Int32) → Prop) : Prop := ((144 : Int32) ≤ x1 → (((256 : Int32) ≤ x1 → (((280 : Int32) ≤ x1 → (wp_Mod_highest n Mod_size Mod_bit mf ((192 + x1) - 280) 8 (fun u4 => post (u4.1, u4.2.1, u4.2.2)))) ∧ (¬ ((280 : Int32) ≤ x1) → (wp_Mod_highest n Mod_size Mod_bit mf (x1 - 256) 7 (fun u6 => post (u6.1, u6.2.1, u6.2.2)))))) ∧ (¬ ((256 : Int32) ≤ x1) → (wp_Mod_highest n Mod_size Mod_bit mf ((400 + x1) - 144) 9 (fun u8 => post (u8.1, u8.2.1, u8.2.2)))))) ∧ (¬ ((144 : Int32) ≤ x1) → (wp_Mod_highest n Mod_size Mod_bit mf (48 + x1) 8 (fun u10 => post (u10.1, u10.2.1, u10.2.2))))
set_option maxHeartbeats 2000000 in
set_option maxRecDepth 20000 in
theorem c_Mod_sign {l : Launch} {dC : Nat → ClassId} {dI : Nat → Nat → Nat} {cI : ClassId} {tb a n : Nat → Nat} {Mod_thrown : Int32} {Mod_width : Int32} {Mod_height : Int32} {Mod_many : Int32} {Mod_size : Int32} {Mod_bit : Int32} {Mod_single : Int32} {Mod_runs : Int32} {Mod_longest : Int32} {mf : Nat → Int32} {x1 : Int32} {post : Int32 × Int32 × (Nat → Int32) → Prop} (h : wp_Mod_sign n Mod_size Mod_bit mf x1 post) : CtV classes dC dI cI tb l y_Mod_sign prog_9_method_19_code 2 ({ frames := 3, cells := 0, slots := 0, locals := 65 }) [.ref (a 7), .int x1] [e_Mod a Mod_thrown Mod_width Mod_height Mod_many Mod_size Mod_bit Mod_single Mod_runs Mod_longest, e_ar a n cI 17 mf] (Int32 × Int32 × (Nat → Int32)) (fun u => [e_Mod a Mod_thrown Mod_width Mod_height Mod_many u.1 u.2.1 Mod_single Mod_runs Mod_longest, e_ar a n cI 17 u.2.2]) post := by
  refine startV (by decide) (Nat.le_of_ble_eq_true rfl) ?_
  intro p e s m below meth c ls E hr hlk hnm hl hw
  have hl : lv_has ls 2 [(0, .ref (a 7)), (1, .int x1)] := hl
  generalize va_A [e_Mod a Mod_thrown Mod_width Mod_height Mod_many Mod_size Mod_bit Mod_single Mod_runs Mod_longest, e_ar a n cI 17 mf] s.heap.size = A at hw ⊢
  obtain ⟨hx, hb, hml, hown, hts⟩ := id E
  unfold wp_Mod_sign at h
  refine lv_iload_n hx hb d_Mod_sign_0 rfl (lv_at hl 1 rfl) ?_
  refine lv_sipush (v := 144) hx hb d_Mod_sign_1 (by decide) ?_
  refine lv_icmp_ge (tgt := 20) hx hb d_Mod_sign_4 (by decide) (fun c1 => ?_) (fun c1 => ?_)
  · have h := h.1 c1
    refine lv_iload_n hx hb d_Mod_sign_20 rfl (lv_at hl 1 rfl) ?_
    refine lv_sipush (v := 256) hx hb d_Mod_sign_21 (by decide) ?_
    refine lv_icmp_ge (tgt := 45) hx hb d_Mod_sign_24 (by decide) (fun c2 => ?_) (fun c2 => ?_)
    · have h := h.1 c2
      refine lv_iload_n hx hb d_Mod_sign_45 rfl (lv_at hl 1 rfl) ?_
      refine lv_sipush (v := 280) hx hb d_Mod_sign_46 (by decide) ?_
      refine lv_icmp_ge (tgt := 66) hx hb d_Mod_sign_49 (by decide) (fun c3 => ?_) (fun c3 => ?_)
      · have h := h.1 c3
        refine lv_aload_n hx hb d_Mod_sign_66 rfl (lv_at hl 0 rfl) ?_
        refine lv_sipush (v := 192) hx hb d_Mod_sign_67 (by decide) ?_
        refine lv_iload_n hx hb d_Mod_sign_70 rfl (lv_at hl 1 rfl) ?_
        refine lv_iadd hx hb d_Mod_sign_71 ?_
        refine lv_sipush (v := 280) hx hb d_Mod_sign_72 (by decide) ?_
        refine lv_isub hx hb d_Mod_sign_75 ?_
        refine lv_bipush (v := 8) hx hb d_Mod_sign_76 (by decide) ?_
        refine kVv (y := y_Mod_highest) (ws' := fun u4 => [e_Mod a Mod_thrown Mod_width Mod_height Mod_many u4.1 u4.2.1 Mod_single Mod_runs Mod_longest, e_ar a n cI 17 u4.2.2]) (wr := []) (As := [.int ((192 + x1) - 280), .int 8]) (rest := []) E hw (c_Mod_highest (l := l) (dC := dC) (dI := dI) (cI := cI) (tb := tb) (a := a) (n := n) (Mod_thrown := Mod_thrown) (Mod_width := Mod_width) (Mod_height := Mod_height) (Mod_many := Mod_many) (Mod_size := Mod_size) (Mod_bit := Mod_bit) (Mod_single := Mod_single) (Mod_runs := Mod_runs) (Mod_longest := Mod_longest) (mf := mf) (x1 := (192 + x1) - 280) (x2 := 8) h) tw550 tw552 tw30 tw44 tw553 2 (by decide) ⟨Nat.le_of_ble_eq_true rfl, Nat.le_of_ble_eq_true rfl⟩ ⟨Nat.le_of_ble_eq_true rfl, Nat.le_of_ble_eq_true rfl⟩ ⟨rfl, rfl⟩ rfl rfl 0 rfl [0, 1] [] [0, 1] rfl rfl rfl rfl (by decide) rfl (fun _ => rfl) hl.1 rfl rfl (Nat.le_of_ble_eq_true rfl) d_Mod_sign_78 (fun u4 H locs h hw => ?_)
        exact retV (out := fun u => [e_Mod a Mod_thrown Mod_width Mod_height Mod_many u.1 u.2.1 Mod_single Mod_runs Mod_longest, e_ar a n cI 17 u.2.2]) (u := (u4.1, u4.2.1, u4.2.2)) E hr hlk hw h d_Mod_sign_81
      · have h := h.2 c3
        refine lv_aload_n hx hb d_Mod_sign_52 rfl (lv_at hl 0 rfl) ?_
        refine lv_iload_n hx hb d_Mod_sign_53 rfl (lv_at hl 1 rfl) ?_
        refine lv_sipush (v := 256) hx hb d_Mod_sign_54 (by decide) ?_
        refine lv_isub hx hb d_Mod_sign_57 ?_
        refine lv_bipush (v := 7) hx hb d_Mod_sign_58 (by decide) ?_
        refine kVv (y := y_Mod_highest) (ws' := fun u6 => [e_Mod a Mod_thrown Mod_width Mod_height Mod_many u6.1 u6.2.1 Mod_single Mod_runs Mod_longest, e_ar a n cI 17 u6.2.2]) (wr := []) (As := [.int (x1 - 256), .int 7]) (rest := []) E hw (c_Mod_highest (l := l) (dC := dC) (dI := dI) (cI := cI) (tb := tb) (a := a) (n := n) (Mod_thrown := Mod_thrown) (Mod_width := Mod_width) (Mod_height := Mod_height) (Mod_many := Mod_many) (Mod_size := Mod_size) (Mod_bit := Mod_bit) (Mod_single := Mod_single) (Mod_runs := Mod_runs) (Mod_longest := Mod_longest) (mf := mf) (x1 := x1 - 256) (x2 := 7) h) tw550 tw552 tw30 tw44 tw553 2 (by decide) ⟨Nat.le_of_ble_eq_true rfl, Nat.le_of_ble_eq_true rfl⟩ ⟨Nat.le_of_ble_eq_true rfl, Nat.le_of_ble_eq_true rfl⟩ ⟨rfl, rfl⟩ rfl rfl 0 rfl [0, 1] [] [0, 1] rfl rfl rfl rfl (by decide) rfl (fun _ => rfl) hl.1 rfl rfl (Nat.le_of_ble_eq_true rfl) d_Mod_sign_60 (fun u6 H locs h hw => ?_)
        refine lv_goto (tgt := 81) hx hb d_Mod_sign_63 (by decide) ?_
        exact retV (out := fun u => [e_Mod a Mod_thrown Mod_width Mod_height Mod_many u.1 u.2.1 Mod_single Mod_runs Mod_longest, e_ar a n cI 17 u.2.2]) (u := (u6.1, u6.2.1, u6.2.2)) E hr hlk hw h d_Mod_sign_81
    · have h := h.2 c2
      refine lv_aload_n hx hb d_Mod_sign_27 rfl (lv_at hl 0 rfl) ?_
      refine lv_sipush (v := 400) hx hb d_Mod_sign_28 (by decide) ?_
      refine lv_iload_n hx hb d_Mod_sign_31 rfl (lv_at hl 1 rfl) ?_
      refine lv_iadd hx hb d_Mod_sign_32 ?_
      refine lv_sipush (v := 144) hx hb d_Mod_sign_33 (by decide) ?_
      refine lv_isub hx hb d_Mod_sign_36 ?_
      refine lv_bipush (v := 9) hx hb d_Mod_sign_37 (by decide) ?_
      refine kVv (y := y_Mod_highest) (ws' := fun u8 => [e_Mod a Mod_thrown Mod_width Mod_height Mod_many u8.1 u8.2.1 Mod_single Mod_runs Mod_longest, e_ar a n cI 17 u8.2.2]) (wr := []) (As := [.int ((400 + x1) - 144), .int 9]) (rest := []) E hw (c_Mod_highest (l := l) (dC := dC) (dI := dI) (cI := cI) (tb := tb) (a := a) (n := n) (Mod_thrown := Mod_thrown) (Mod_width := Mod_width) (Mod_height := Mod_height) (Mod_many := Mod_many) (Mod_size := Mod_size) (Mod_bit := Mod_bit) (Mod_single := Mod_single) (Mod_runs := Mod_runs) (Mod_longest := Mod_longest) (mf := mf) (x1 := (400 + x1) - 144) (x2 := 9) h) tw550 tw552 tw30 tw44 tw553 2 (by decide) ⟨Nat.le_of_ble_eq_true rfl, Nat.le_of_ble_eq_true rfl⟩ ⟨Nat.le_of_ble_eq_true rfl, Nat.le_of_ble_eq_true rfl⟩ ⟨rfl, rfl⟩ rfl rfl 0 rfl [0, 1] [] [0, 1] rfl rfl rfl rfl (by decide) rfl (fun _ => rfl) hl.1 rfl rfl (Nat.le_of_ble_eq_true rfl) d_Mod_sign_39 (fun u8 H locs h hw => ?_)
      refine lv_goto (tgt := 81) hx hb d_Mod_sign_42 (by decide) ?_
      exact retV (out := fun u => [e_Mod a Mod_thrown Mod_width Mod_height Mod_many u.1 u.2.1 Mod_single Mod_runs Mod_longest, e_ar a n cI 17 u.2.2]) (u := (u8.1, u8.2.1, u8.2.2)) E hr hlk hw h d_Mod_sign_81
  · have h := h.2 c1
    refine lv_aload_n hx hb d_Mod_sign_7 rfl (lv_at hl 0 rfl) ?_
    refine lv_bipush (v := 48) hx hb d_Mod_sign_8 (by decide) ?_
    refine lv_iload_n hx hb d_Mod_sign_10 rfl (lv_at hl 1 rfl) ?_
    refine lv_iadd hx hb d_Mod_sign_11 ?_
    refine lv_bipush (v := 8) hx hb d_Mod_sign_12 (by decide) ?_
    refine kVv (y := y_Mod_highest) (ws' := fun u10 => [e_Mod a Mod_thrown Mod_width Mod_height Mod_many u10.1 u10.2.1 Mod_single Mod_runs Mod_longest, e_ar a n cI 17 u10.2.2]) (wr := []) (As := [.int (48 + x1), .int 8]) (rest := []) E hw (c_Mod_highest (l := l) (dC := dC) (dI := dI) (cI := cI) (tb := tb) (a := a) (n := n) (Mod_thrown := Mod_thrown) (Mod_width := Mod_width) (Mod_height := Mod_height) (Mod_many := Mod_many) (Mod_size := Mod_size) (Mod_bit := Mod_bit) (Mod_single := Mod_single) (Mod_runs := Mod_runs) (Mod_longest := Mod_longest) (mf := mf) (x1 := 48 + x1) (x2 := 8) h) tw550 tw552 tw30 tw44 tw553 2 (by decide) ⟨Nat.le_of_ble_eq_true rfl, Nat.le_of_ble_eq_true rfl⟩ ⟨Nat.le_of_ble_eq_true rfl, Nat.le_of_ble_eq_true rfl⟩ ⟨rfl, rfl⟩ rfl rfl 0 rfl [0, 1] [] [0, 1] rfl rfl rfl rfl (by decide) rfl (fun _ => rfl) hl.1 rfl rfl (Nat.le_of_ble_eq_true rfl) d_Mod_sign_14 (fun u10 H locs h hw => ?_)
    refine lv_goto (tgt := 81) hx hb d_Mod_sign_17 (by decide) ?_
    exact retV (out := fun u => [e_Mod a Mod_thrown Mod_width Mod_height Mod_many u.1 u.2.1 Mod_single Mod_runs Mod_longest, e_ar a n cI 17 u.2.2]) (u := (u10.1, u10.2.1, u10.2.2)) E hr hlk hw h d_Mod_sign_81
end
section
-- PicturePackerModel.length(I)V
theorem d_Mod_length_0 : decode prog_9_method_20_code 0 = .ok (.iload_n 1, 1) := by decide +kernel
theorem d_Mod_length_1 : decode prog_9_method_20_code 1 = .ok (.sipush 258, 3) := by decide +kernel
theorem d_Mod_length_4 : decode prog_9_method_20_code 4 = .ok (.if_icmp .ne 11, 3) := by decide +kernel
theorem d_Mod_length_7 : decode prog_9_method_20_code 7 = .ok (.aload_n 0, 1) := by decide +kernel
theorem d_Mod_length_8 : decode prog_9_method_20_code 8 = .ok (.sipush 285, 3) := by decide +kernel
theorem d_Mod_length_11 : decode prog_9_method_20_code 11 = .ok (.invokevirtual 72, 3) := by decide +kernel
theorem d_Mod_length_14 : decode prog_9_method_20_code 14 = .ok (.return_, 1) := by decide +kernel
theorem d_Mod_length_15 : decode prog_9_method_20_code 15 = .ok (.iload_n 1, 1) := by decide +kernel
theorem d_Mod_length_16 : decode prog_9_method_20_code 16 = .ok (.bipush 11, 2) := by decide +kernel
theorem d_Mod_length_18 : decode prog_9_method_20_code 18 = .ok (.if_icmp .ge 15, 3) := by decide +kernel
theorem d_Mod_length_21 : decode prog_9_method_20_code 21 = .ok (.aload_n 0, 1) := by decide +kernel
theorem d_Mod_length_22 : decode prog_9_method_20_code 22 = .ok (.sipush 257, 3) := by decide +kernel
theorem d_Mod_length_25 : decode prog_9_method_20_code 25 = .ok (.iload_n 1, 1) := by decide +kernel
theorem d_Mod_length_26 : decode prog_9_method_20_code 26 = .ok (.iadd, 1) := by decide +kernel
theorem d_Mod_length_27 : decode prog_9_method_20_code 27 = .ok (.iconst 3, 1) := by decide +kernel
theorem d_Mod_length_28 : decode prog_9_method_20_code 28 = .ok (.isub, 1) := by decide +kernel
theorem d_Mod_length_29 : decode prog_9_method_20_code 29 = .ok (.invokevirtual 72, 3) := by decide +kernel
theorem d_Mod_length_32 : decode prog_9_method_20_code 32 = .ok (.return_, 1) := by decide +kernel
theorem d_Mod_length_33 : decode prog_9_method_20_code 33 = .ok (.iconst 1, 1) := by decide +kernel
theorem d_Mod_length_34 : decode prog_9_method_20_code 34 = .ok (.istore_n 2, 1) := by decide +kernel
theorem d_Mod_length_35 : decode prog_9_method_20_code 35 = .ok (.bipush 11, 2) := by decide +kernel
theorem d_Mod_length_37 : decode prog_9_method_20_code 37 = .ok (.istore_n 3, 1) := by decide +kernel
theorem d_Mod_length_38 : decode prog_9_method_20_code 38 = .ok (.sipush 265, 3) := by decide +kernel
theorem d_Mod_length_41 : decode prog_9_method_20_code 41 = .ok (.istore 4, 2) := by decide +kernel
theorem d_Mod_length_43 : decode prog_9_method_20_code 43 = .ok (.iload_n 1, 1) := by decide +kernel
theorem d_Mod_length_44 : decode prog_9_method_20_code 44 = .ok (.iload_n 3, 1) := by decide +kernel
theorem d_Mod_length_45 : decode prog_9_method_20_code 45 = .ok (.iconst 4, 1) := by decide +kernel
theorem d_Mod_length_46 : decode prog_9_method_20_code 46 = .ok (.iconst 1, 1) := by decide +kernel
theorem d_Mod_length_47 : decode prog_9_method_20_code 47 = .ok (.iload_n 2, 1) := by decide +kernel
theorem d_Mod_length_48 : decode prog_9_method_20_code 48 = .ok (.ishl, 1) := by decide +kernel
theorem d_Mod_length_49 : decode prog_9_method_20_code 49 = .ok (.imul, 1) := by decide +kernel
theorem d_Mod_length_50 : decode prog_9_method_20_code 50 = .ok (.iadd, 1) := by decide +kernel
theorem d_Mod_length_51 : decode prog_9_method_20_code 51 = .ok (.if_icmp .lt 20, 3) := by decide +kernel
theorem d_Mod_length_54 : decode prog_9_method_20_code 54 = .ok (.iload_n 3, 1) := by decide +kernel
theorem d_Mod_length_55 : decode prog_9_method_20_code 55 = .ok (.iconst 4, 1) := by decide +kernel
theorem d_Mod_length_56 : decode prog_9_method_20_code 56 = .ok (.iconst 1, 1) := by decide +kernel
theorem d_Mod_length_57 : decode prog_9_method_20_code 57 = .ok (.iload_n 2, 1) := by decide +kernel
theorem d_Mod_length_58 : decode prog_9_method_20_code 58 = .ok (.ishl, 1) := by decide +kernel
theorem d_Mod_length_59 : decode prog_9_method_20_code 59 = .ok (.imul, 1) := by decide +kernel
theorem d_Mod_length_60 : decode prog_9_method_20_code 60 = .ok (.iadd, 1) := by decide +kernel
theorem d_Mod_length_61 : decode prog_9_method_20_code 61 = .ok (.istore_n 3, 1) := by decide +kernel
theorem d_Mod_length_62 : decode prog_9_method_20_code 62 = .ok (.iinc 4 4, 3) := by decide +kernel
theorem d_Mod_length_65 : decode prog_9_method_20_code 65 = .ok (.iinc 2 1, 3) := by decide +kernel
theorem d_Mod_length_68 : decode prog_9_method_20_code 68 = .ok (.goto (-25), 3) := by decide +kernel
theorem d_Mod_length_71 : decode prog_9_method_20_code 71 = .ok (.aload_n 0, 1) := by decide +kernel
theorem d_Mod_length_72 : decode prog_9_method_20_code 72 = .ok (.iload 4, 2) := by decide +kernel
theorem d_Mod_length_74 : decode prog_9_method_20_code 74 = .ok (.iload_n 1, 1) := by decide +kernel
theorem d_Mod_length_75 : decode prog_9_method_20_code 75 = .ok (.iload_n 3, 1) := by decide +kernel
theorem d_Mod_length_76 : decode prog_9_method_20_code 76 = .ok (.isub, 1) := by decide +kernel
theorem d_Mod_length_77 : decode prog_9_method_20_code 77 = .ok (.iload_n 2, 1) := by decide +kernel
theorem d_Mod_length_78 : decode prog_9_method_20_code 78 = .ok (.ishr, 1) := by decide +kernel
theorem d_Mod_length_79 : decode prog_9_method_20_code 79 = .ok (.iadd, 1) := by decide +kernel
theorem d_Mod_length_80 : decode prog_9_method_20_code 80 = .ok (.invokevirtual 72, 3) := by decide +kernel
theorem d_Mod_length_83 : decode prog_9_method_20_code 83 = .ok (.aload_n 0, 1) := by decide +kernel
theorem d_Mod_length_84 : decode prog_9_method_20_code 84 = .ok (.iload_n 1, 1) := by decide +kernel
theorem d_Mod_length_85 : decode prog_9_method_20_code 85 = .ok (.iload_n 3, 1) := by decide +kernel
theorem d_Mod_length_86 : decode prog_9_method_20_code 86 = .ok (.isub, 1) := by decide +kernel
theorem d_Mod_length_87 : decode prog_9_method_20_code 87 = .ok (.iconst 1, 1) := by decide +kernel
theorem d_Mod_length_88 : decode prog_9_method_20_code 88 = .ok (.iload_n 2, 1) := by decide +kernel
theorem d_Mod_length_89 : decode prog_9_method_20_code 89 = .ok (.ishl, 1) := by decide +kernel
theorem d_Mod_length_90 : decode prog_9_method_20_code 90 = .ok (.iconst 1, 1) := by decide +kernel
theorem d_Mod_length_91 : decode prog_9_method_20_code 91 = .ok (.isub, 1) := by decide +kernel
theorem d_Mod_length_92 : decode prog_9_method_20_code 92 = .ok (.iand, 1) := by decide +kernel
theorem d_Mod_length_93 : decode prog_9_method_20_code 93 = .ok (.iload_n 2, 1) := by decide +kernel
theorem d_Mod_length_94 : decode prog_9_method_20_code 94 = .ok (.invokevirtual 75, 3) := by decide +kernel
theorem d_Mod_length_97 : decode prog_9_method_20_code 97 = .ok (.return_, 1) := by decide +kernel
abbrev y_Mod_length : MethodName := ⟨"PicturePackerModel", "length", "(I)V"⟩
def wp_Mod_length_43 (n : Nat → Nat) (x1 : Int32) (post : Int32 × Int32 × (Nat → Int32) → Prop) : Nat → Int32 → Int32 → (Nat → Int32) → Int32 → Int32 → Int32 → Prop
  | 0 => fun _ _ _ _ _ _ => False
  | N + 1 => fun Mod_size Mod_bit mf y2 y3 y4 => ((x1 : Int32) < (y3 + (4 * ((1 : Int32) <<< (y2 &&& 31)))) → (wp_Mod_sign n Mod_size Mod_bit mf (y4 + ((x1 - y3 : Int32) >>> (y2 &&& 31))) (fun u4 => wp_Mod_lowest n u4.1 u4.2.1 u4.2.2 ((x1 - y3) &&& (((1 : Int32) <<< (y2 &&& 31)) - 1)) y2 (fun u6 => post (u6.1, u6.2.1, u6.2.2))))) ∧ (¬ ((x1 : Int32) < (y3 + (4 * ((1 : Int32) <<< (y2 &&& 31))))) → (∀ z8 : Int32, z8 = (y3 + (4 * ((1 : Int32) <<< (y2 &&& 31)))) → (∀ z9 : Int32, z9 = (y4 + 4) → (∀ z10 : Int32, z10 = (y2 + 1) → (wp_Mod_length_43 n x1 post N Mod_size Mod_bit mf z10 z8 z9)))))
def wp_Mod_length (n : Nat → Nat) (Mod_size : Int32) (Mod_bit : Int32) (mf : Nat → Int32) (x1 : Int32) (post : Int32 × Int32 × (Nat → Int32) → Prop) : Prop := (¬ (x1 : Int32) = 258 → (((11 : Int32) ≤ x1 → (∃ N11 : Nat, wp_Mod_length_43 n x1 post N11 Mod_size Mod_bit mf 1 11 265)) ∧ (¬ ((11 : Int32) ≤ x1) → (wp_Mod_sign n Mod_size Mod_bit mf ((257 + x1) - 3) (fun u12 => post (u12.1, u12.2.1, u12.2.2)))))) ∧ ((x1 : Int32) = 258 → (wp_Mod_sign n Mod_size Mod_bit mf 285 (fun u14 => post (u14.1, u14.2.1, u14.2.2))))
set_option maxHeartbeats 2000000 in
set_option maxRecDepth 20000 in
theorem s_Mod_length_43 {l : Launch} {dC : Nat → ClassId} {dI : Nat → Nat → Nat} {cI : ClassId} {tb a n : Nat → Nat} {p : Program} {e : Env} {s : State} {m : MethodId} {args : Array Value} {below : List Frame} {meth : Method} {c : Code} {A : Nat → Prop} (E : CallFix p m c prog_9_method_20_code 5 s args TBL "PicturePackerModel") (hr : meth.sig.returnType = none) (hlk : meth.locks = false) {Mod_thrown : Int32} {Mod_width : Int32} {Mod_height : Int32} {Mod_many : Int32} {Mod_single : Int32} {Mod_runs : Int32} {Mod_longest : Int32} {x1 : Int32} {post : Int32 × Int32 × (Nat → Int32) → Prop} : ∀ (N : Nat) (Mod_size : Int32) (Mod_bit : Int32) (mf : Nat → Int32) (y2 : Int32) (y3 : Int32) (y4 : Int32) (H : Heap) (locs : List Loc) (ls : Array Slot), Wl classes dC dI cI tb A s H locs [e_Mod a Mod_thrown Mod_width Mod_height Mod_many Mod_size Mod_bit Mod_single Mod_runs Mod_longest, e_ar a n cI 17 mf] → lv_has ls 5 [(0, .ref (a 7)), (1, .int x1), (2, .int y2), (3, .int y3), (4, .int y4)] → wp_Mod_length_43 n x1 post N Mod_size Mod_bit mf y2 y3 y4 → W p l e ({ frames := 4, cells := 0, slots := 0, locals := 86 }) s m args below meth c H locs 0 0 (MQ below (va_Qv post (fun u => End0 classes dC dI cI A [e_Mod a Mod_thrown Mod_width Mod_height Mod_many u.1 u.2.1 Mod_single Mod_runs Mod_longest, e_ar a n cI 17 u.2.2]) A) args s 0 0 A) (F0 m 43 ls []) := by
  obtain ⟨hx, hb, hml, hown, hts⟩ := id E
  intro N
  induction N with
  | zero =>
    intro _ _ _ _ _ _ H locs ls hw hl h
    exact absurd h id
  | succ N ih =>
    intro Mod_size Mod_bit mf y2 y3 y4 H locs ls hw hl h
    unfold wp_Mod_length_43 at h
    refine lv_iload_n hx hb d_Mod_length_43 rfl (lv_at hl 1 rfl) ?_
    refine lv_iload_n hx hb d_Mod_length_44 rfl (lv_at hl 3 rfl) ?_
    refine lv_iconst (v := 4) hx hb d_Mod_length_45 (by decide) ?_
    refine lv_iconst (v := 1) hx hb d_Mod_length_46 (by decide) ?_
    refine lv_iload_n hx hb d_Mod_length_47 rfl (lv_at hl 2 rfl) ?_
    refine lv_ishl hx hb d_Mod_length_48 ?_
    refine lv_imul hx hb d_Mod_length_49 ?_
    refine lv_iadd hx hb d_Mod_length_50 ?_
    refine lv_icmp_lt (tgt := 71) hx hb d_Mod_length_51 (by decide) (fun c3 => ?_) (fun c3 => ?_)
    · have h := h.1 c3
      refine lv_aload_n hx hb d_Mod_length_71 rfl (lv_at hl 0 rfl) ?_
      refine lv_iload hx hb d_Mod_length_72 (lv_at hl 4 rfl) ?_
      refine lv_iload_n hx hb d_Mod_length_74 rfl (lv_at hl 1 rfl) ?_
      refine lv_iload_n hx hb d_Mod_length_75 rfl (lv_at hl 3 rfl) ?_
      refine lv_isub hx hb d_Mod_length_76 ?_
      refine lv_iload_n hx hb d_Mod_length_77 rfl (lv_at hl 2 rfl) ?_
      refine lv_ishr hx hb d_Mod_length_78 ?_
      refine lv_iadd hx hb d_Mod_length_79 ?_
      refine kVv (y := y_Mod_sign) (ws' := fun u4 => [e_Mod a Mod_thrown Mod_width Mod_height Mod_many u4.1 u4.2.1 Mod_single Mod_runs Mod_longest, e_ar a n cI 17 u4.2.2]) (wr := []) (As := [.int (y4 + ((x1 - y3 : Int32) >>> (y2 &&& 31)))]) (rest := []) E hw (c_Mod_sign (l := l) (dC := dC) (dI := dI) (cI := cI) (tb := tb) (a := a) (n := n) (Mod_thrown := Mod_thrown) (Mod_width := Mod_width) (Mod_height := Mod_height) (Mod_many := Mod_many) (Mod_size := Mod_size) (Mod_bit := Mod_bit) (Mod_single := Mod_single) (Mod_runs := Mod_runs) (Mod_longest := Mod_longest) (mf := mf) (x1 := y4 + ((x1 - y3 : Int32) >>> (y2 &&& 31))) h) tw546 tw548 tw29 tw44 tw549 1 (by decide) ⟨Nat.le_of_ble_eq_true rfl, Nat.le_of_ble_eq_true rfl⟩ ⟨Nat.le_of_ble_eq_true rfl, Nat.le_of_ble_eq_true rfl⟩ ⟨rfl, rfl⟩ rfl rfl 0 rfl [0, 1] [] [0, 1] rfl rfl rfl rfl (by decide) rfl (fun _ => rfl) hl.1 rfl rfl (Nat.le_of_ble_eq_true rfl) d_Mod_length_80 (fun u4 H locs h hw => ?_)
      refine lv_aload_n hx hb d_Mod_length_83 rfl (lv_at hl 0 rfl) ?_
      refine lv_iload_n hx hb d_Mod_length_84 rfl (lv_at hl 1 rfl) ?_
      refine lv_iload_n hx hb d_Mod_length_85 rfl (lv_at hl 3 rfl) ?_
      refine lv_isub hx hb d_Mod_length_86 ?_
      refine lv_iconst (v := 1) hx hb d_Mod_length_87 (by decide) ?_
      refine lv_iload_n hx hb d_Mod_length_88 rfl (lv_at hl 2 rfl) ?_
      refine lv_ishl hx hb d_Mod_length_89 ?_
      refine lv_iconst (v := 1) hx hb d_Mod_length_90 (by decide) ?_
      refine lv_isub hx hb d_Mod_length_91 ?_
      refine lv_iand hx hb d_Mod_length_92 ?_
      refine lv_iload_n hx hb d_Mod_length_93 rfl (lv_at hl 2 rfl) ?_
      refine kVv (y := y_Mod_lowest) (ws' := fun u6 => [e_Mod a Mod_thrown Mod_width Mod_height Mod_many u6.1 u6.2.1 Mod_single Mod_runs Mod_longest, e_ar a n cI 17 u6.2.2]) (wr := []) (As := [.int ((x1 - y3) &&& (((1 : Int32) <<< (y2 &&& 31)) - 1)), .int y2]) (rest := []) E hw (c_Mod_lowest (l := l) (dC := dC) (dI := dI) (cI := cI) (tb := tb) (a := a) (n := n) (Mod_thrown := Mod_thrown) (Mod_width := Mod_width) (Mod_height := Mod_height) (Mod_many := Mod_many) (Mod_size := u4.1) (Mod_bit := u4.2.1) (Mod_single := Mod_single) (Mod_runs := Mod_runs) (Mod_longest := Mod_longest) (mf := u4.2.2) (x1 := (x1 - y3) &&& (((1 : Int32) <<< (y2 &&& 31)) - 1)) (x2 := y2) h) tw554 tw556 tw31 tw44 tw557 2 (by decide) ⟨Nat.le_of_ble_eq_true rfl, Nat.le_of_ble_eq_true rfl⟩ ⟨Nat.le_of_ble_eq_true rfl, Nat.le_of_ble_eq_true rfl⟩ ⟨rfl, rfl⟩ rfl rfl 0 rfl [0, 1] [] [0, 1] rfl rfl rfl rfl (by decide) rfl (fun _ => rfl) hl.1 rfl rfl (Nat.le_of_ble_eq_true rfl) d_Mod_length_94 (fun u6 H locs h hw => ?_)
      exact retV (out := fun u => [e_Mod a Mod_thrown Mod_width Mod_height Mod_many u.1 u.2.1 Mod_single Mod_runs Mod_longest, e_ar a n cI 17 u.2.2]) (u := (u6.1, u6.2.1, u6.2.2)) E hr hlk hw h d_Mod_length_97
    · have h := h.2 c3
      refine lv_iload_n hx hb d_Mod_length_54 rfl (lv_at hl 3 rfl) ?_
      refine lv_iconst (v := 4) hx hb d_Mod_length_55 (by decide) ?_
      refine lv_iconst (v := 1) hx hb d_Mod_length_56 (by decide) ?_
      refine lv_iload_n hx hb d_Mod_length_57 rfl (lv_at hl 2 rfl) ?_
      refine lv_ishl hx hb d_Mod_length_58 ?_
      refine lv_imul hx hb d_Mod_length_59 ?_
      refine lv_iadd hx hb d_Mod_length_60 ?_
      refine lv_topi (fun z8 ez8 => ?_)
      have h := h z8 ez8
      refine lv_istore_n (lv' := [(3, .int z8), (0, .ref (a 7)), (1, .int x1), (2, .int y2), (4, .int y4)]) hx hb d_Mod_length_61 rfl hl (by decide) rfl (fun ls hl => ?_)
      obtain ⟨z9, ez9⟩ : ∃ z : Int32, z = y4 + 4 := ⟨_, rfl⟩
      have h := h z9 ez9
      refine lv_iinc (v := z9) (lv' := [(4, .int z9), (3, .int z8), (0, .ref (a 7)), (1, .int x1), (2, .int y2)]) hx hb d_Mod_length_62 hl (k := 4) rfl (by rw [ez9]; exact congrArg (y4 + ·) (by decide)) (by decide) rfl (fun ls hl => ?_)
      obtain ⟨z10, ez10⟩ : ∃ z : Int32, z = y2 + 1 := ⟨_, rfl⟩
      have h := h z10 ez10
      refine lv_iinc (v := z10) (lv' := [(2, .int z10), (4, .int z9), (3, .int z8), (0, .ref (a 7)), (1, .int x1)]) hx hb d_Mod_length_65 hl (k := 4) rfl (by rw [ez10]; exact congrArg (y2 + ·) (by decide)) (by decide) rfl (fun ls hl => ?_)
      refine lv_goto (tgt := 43) hx hb d_Mod_length_68 (by decide) ?_
      exact ih Mod_size Mod_bit mf z10 z8 z9 _ _ ls hw (lv_sub hl [3, 4, 0, 2, 1] rfl) h
set_option maxHeartbeats 2000000 in
set_option maxRecDepth 20000 in
theorem c_Mod_length {l : Launch} {dC : Nat → ClassId} {dI : Nat → Nat → Nat} {cI : ClassId} {tb a n : Nat → Nat} {Mod_thrown : Int32} {Mod_width : Int32} {Mod_height : Int32} {Mod_many : Int32} {Mod_size : Int32} {Mod_bit : Int32} {Mod_single : Int32} {Mod_runs : Int32} {Mod_longest : Int32} {mf : Nat → Int32} {x1 : Int32} {post : Int32 × Int32 × (Nat → Int32) → Prop} (h : wp_Mod_length n Mod_size Mod_bit mf x1 post) : CtV classes dC dI cI tb l y_Mod_length prog_9_method_20_code 5 ({ frames := 4, cells := 0, slots := 0, locals := 86 }) [.ref (a 7), .int x1] [e_Mod a Mod_thrown Mod_width Mod_height Mod_many Mod_size Mod_bit Mod_single Mod_runs Mod_longest, e_ar a n cI 17 mf] (Int32 × Int32 × (Nat → Int32)) (fun u => [e_Mod a Mod_thrown Mod_width Mod_height Mod_many u.1 u.2.1 Mod_single Mod_runs Mod_longest, e_ar a n cI 17 u.2.2]) post := by
  refine startV (by decide) (Nat.le_of_ble_eq_true rfl) ?_
  intro p e s m below meth c ls E hr hlk hnm hl hw
  have hl : lv_has ls 5 [(0, .ref (a 7)), (1, .int x1)] := hl
  generalize va_A [e_Mod a Mod_thrown Mod_width Mod_height Mod_many Mod_size Mod_bit Mod_single Mod_runs Mod_longest, e_ar a n cI 17 mf] s.heap.size = A at hw ⊢
  obtain ⟨hx, hb, hml, hown, hts⟩ := id E
  unfold wp_Mod_length at h
  refine lv_iload_n hx hb d_Mod_length_0 rfl (lv_at hl 1 rfl) ?_
  refine lv_sipush (v := 258) hx hb d_Mod_length_1 (by decide) ?_
  refine lv_icmp_ne (tgt := 15) hx hb d_Mod_length_4 (by decide) (fun c1 => ?_) (fun c1 => ?_)
  · have h := h.1 c1
    refine lv_iload_n hx hb d_Mod_length_15 rfl (lv_at hl 1 rfl) ?_
    refine lv_bipush (v := 11) hx hb d_Mod_length_16 (by decide) ?_
    refine lv_icmp_ge (tgt := 33) hx hb d_Mod_length_18 (by decide) (fun c2 => ?_) (fun c2 => ?_)
    · have h := h.1 c2
      refine lv_iconst (v := 1) hx hb d_Mod_length_33 (by decide) ?_
      refine lv_istore_n (lv' := [(2, .int 1), (0, .ref (a 7)), (1, .int x1)]) hx hb d_Mod_length_34 rfl hl (by decide) rfl (fun ls hl => ?_)
      refine lv_bipush (v := 11) hx hb d_Mod_length_35 (by decide) ?_
      refine lv_istore_n (lv' := [(3, .int 11), (2, .int 1), (0, .ref (a 7)), (1, .int x1)]) hx hb d_Mod_length_37 rfl hl (by decide) rfl (fun ls hl => ?_)
      refine lv_sipush (v := 265) hx hb d_Mod_length_38 (by decide) ?_
      refine lv_istore (lv' := [(4, .int 265), (3, .int 11), (2, .int 1), (0, .ref (a 7)), (1, .int x1)]) hx hb d_Mod_length_41 hl (by decide) rfl (fun ls hl => ?_)
      obtain ⟨N11, h⟩ := h
      exact s_Mod_length_43 (a := a) (n := n) (tb := tb) E hr hlk  N11 Mod_size Mod_bit mf 1 11 265 _ _ ls hw (lv_sub hl [3, 4, 2, 1, 0] rfl) h
    · have h := h.2 c2
      refine lv_aload_n hx hb d_Mod_length_21 rfl (lv_at hl 0 rfl) ?_
      refine lv_sipush (v := 257) hx hb d_Mod_length_22 (by decide) ?_
      refine lv_iload_n hx hb d_Mod_length_25 rfl (lv_at hl 1 rfl) ?_
      refine lv_iadd hx hb d_Mod_length_26 ?_
      refine lv_iconst (v := 3) hx hb d_Mod_length_27 (by decide) ?_
      refine lv_isub hx hb d_Mod_length_28 ?_
      refine kVv (y := y_Mod_sign) (ws' := fun u12 => [e_Mod a Mod_thrown Mod_width Mod_height Mod_many u12.1 u12.2.1 Mod_single Mod_runs Mod_longest, e_ar a n cI 17 u12.2.2]) (wr := []) (As := [.int ((257 + x1) - 3)]) (rest := []) E hw (c_Mod_sign (l := l) (dC := dC) (dI := dI) (cI := cI) (tb := tb) (a := a) (n := n) (Mod_thrown := Mod_thrown) (Mod_width := Mod_width) (Mod_height := Mod_height) (Mod_many := Mod_many) (Mod_size := Mod_size) (Mod_bit := Mod_bit) (Mod_single := Mod_single) (Mod_runs := Mod_runs) (Mod_longest := Mod_longest) (mf := mf) (x1 := (257 + x1) - 3) h) tw546 tw548 tw29 tw44 tw549 1 (by decide) ⟨Nat.le_of_ble_eq_true rfl, Nat.le_of_ble_eq_true rfl⟩ ⟨Nat.le_of_ble_eq_true rfl, Nat.le_of_ble_eq_true rfl⟩ ⟨rfl, rfl⟩ rfl rfl 0 rfl [0, 1] [] [0, 1] rfl rfl rfl rfl (by decide) rfl (fun _ => rfl) hl.1 rfl rfl (Nat.le_of_ble_eq_true rfl) d_Mod_length_29 (fun u12 H locs h hw => ?_)
      exact retV (out := fun u => [e_Mod a Mod_thrown Mod_width Mod_height Mod_many u.1 u.2.1 Mod_single Mod_runs Mod_longest, e_ar a n cI 17 u.2.2]) (u := (u12.1, u12.2.1, u12.2.2)) E hr hlk hw h d_Mod_length_32
  · have h := h.2 c1
    refine lv_aload_n hx hb d_Mod_length_7 rfl (lv_at hl 0 rfl) ?_
    refine lv_sipush (v := 285) hx hb d_Mod_length_8 (by decide) ?_
    refine kVv (y := y_Mod_sign) (ws' := fun u14 => [e_Mod a Mod_thrown Mod_width Mod_height Mod_many u14.1 u14.2.1 Mod_single Mod_runs Mod_longest, e_ar a n cI 17 u14.2.2]) (wr := []) (As := [.int 285]) (rest := []) E hw (c_Mod_sign (l := l) (dC := dC) (dI := dI) (cI := cI) (tb := tb) (a := a) (n := n) (Mod_thrown := Mod_thrown) (Mod_width := Mod_width) (Mod_height := Mod_height) (Mod_many := Mod_many) (Mod_size := Mod_size) (Mod_bit := Mod_bit) (Mod_single := Mod_single) (Mod_runs := Mod_runs) (Mod_longest := Mod_longest) (mf := mf) (x1 := 285) h) tw546 tw548 tw29 tw44 tw549 1 (by decide) ⟨Nat.le_of_ble_eq_true rfl, Nat.le_of_ble_eq_true rfl⟩ ⟨Nat.le_of_ble_eq_true rfl, Nat.le_of_ble_eq_true rfl⟩ ⟨rfl, rfl⟩ rfl rfl 0 rfl [0, 1] [] [0, 1] rfl rfl rfl rfl (by decide) rfl (fun _ => rfl) hl.1 rfl rfl (Nat.le_of_ble_eq_true rfl) d_Mod_length_11 (fun u14 H locs h hw => ?_)
    exact retV (out := fun u => [e_Mod a Mod_thrown Mod_width Mod_height Mod_many u.1 u.2.1 Mod_single Mod_runs Mod_longest, e_ar a n cI 17 u.2.2]) (u := (u14.1, u14.2.1, u14.2.2)) E hr hlk hw h d_Mod_length_14
-- PicturePackerModel.distance(I)V
theorem d_Mod_distance_0 : decode prog_9_method_21_code 0 = .ok (.iload_n 1, 1) := by decide +kernel
theorem d_Mod_distance_1 : decode prog_9_method_21_code 1 = .ok (.iconst 5, 1) := by decide +kernel
theorem d_Mod_distance_2 : decode prog_9_method_21_code 2 = .ok (.if_icmp .ge 12, 3) := by decide +kernel
theorem d_Mod_distance_5 : decode prog_9_method_21_code 5 = .ok (.aload_n 0, 1) := by decide +kernel
theorem d_Mod_distance_6 : decode prog_9_method_21_code 6 = .ok (.iload_n 1, 1) := by decide +kernel
theorem d_Mod_distance_7 : decode prog_9_method_21_code 7 = .ok (.iconst 1, 1) := by decide +kernel
theorem d_Mod_distance_8 : decode prog_9_method_21_code 8 = .ok (.isub, 1) := by decide +kernel
theorem d_Mod_distance_9 : decode prog_9_method_21_code 9 = .ok (.iconst 5, 1) := by decide +kernel
theorem d_Mod_distance_10 : decode prog_9_method_21_code 10 = .ok (.invokevirtual 68, 3) := by decide +kernel
theorem d_Mod_distance_13 : decode prog_9_method_21_code 13 = .ok (.return_, 1) := by decide +kernel
theorem d_Mod_distance_14 : decode prog_9_method_21_code 14 = .ok (.iconst 1, 1) := by decide +kernel
theorem d_Mod_distance_15 : decode prog_9_method_21_code 15 = .ok (.istore_n 2, 1) := by decide +kernel
theorem d_Mod_distance_16 : decode prog_9_method_21_code 16 = .ok (.iconst 5, 1) := by decide +kernel
theorem d_Mod_distance_17 : decode prog_9_method_21_code 17 = .ok (.istore_n 3, 1) := by decide +kernel
theorem d_Mod_distance_18 : decode prog_9_method_21_code 18 = .ok (.iconst 4, 1) := by decide +kernel
theorem d_Mod_distance_19 : decode prog_9_method_21_code 19 = .ok (.istore 4, 2) := by decide +kernel
theorem d_Mod_distance_21 : decode prog_9_method_21_code 21 = .ok (.iload_n 1, 1) := by decide +kernel
theorem d_Mod_distance_22 : decode prog_9_method_21_code 22 = .ok (.iload_n 3, 1) := by decide +kernel
theorem d_Mod_distance_23 : decode prog_9_method_21_code 23 = .ok (.iconst 2, 1) := by decide +kernel
theorem d_Mod_distance_24 : decode prog_9_method_21_code 24 = .ok (.iconst 1, 1) := by decide +kernel
theorem d_Mod_distance_25 : decode prog_9_method_21_code 25 = .ok (.iload_n 2, 1) := by decide +kernel
theorem d_Mod_distance_26 : decode prog_9_method_21_code 26 = .ok (.ishl, 1) := by decide +kernel
theorem d_Mod_distance_27 : decode prog_9_method_21_code 27 = .ok (.imul, 1) := by decide +kernel
theorem d_Mod_distance_28 : decode prog_9_method_21_code 28 = .ok (.iadd, 1) := by decide +kernel
theorem d_Mod_distance_29 : decode prog_9_method_21_code 29 = .ok (.if_icmp .lt 20, 3) := by decide +kernel
theorem d_Mod_distance_32 : decode prog_9_method_21_code 32 = .ok (.iload_n 3, 1) := by decide +kernel
theorem d_Mod_distance_33 : decode prog_9_method_21_code 33 = .ok (.iconst 2, 1) := by decide +kernel
theorem d_Mod_distance_34 : decode prog_9_method_21_code 34 = .ok (.iconst 1, 1) := by decide +kernel
theorem d_Mod_distance_35 : decode prog_9_method_21_code 35 = .ok (.iload_n 2, 1) := by decide +kernel
theorem d_Mod_distance_36 : decode prog_9_method_21_code 36 = .ok (.ishl, 1) := by decide +kernel
theorem d_Mod_distance_37 : decode prog_9_method_21_code 37 = .ok (.imul, 1) := by decide +kernel
theorem d_Mod_distance_38 : decode prog_9_method_21_code 38 = .ok (.iadd, 1) := by decide +kernel
theorem d_Mod_distance_39 : decode prog_9_method_21_code 39 = .ok (.istore_n 3, 1) := by decide +kernel
theorem d_Mod_distance_40 : decode prog_9_method_21_code 40 = .ok (.iinc 4 2, 3) := by decide +kernel
theorem d_Mod_distance_43 : decode prog_9_method_21_code 43 = .ok (.iinc 2 1, 3) := by decide +kernel
theorem d_Mod_distance_46 : decode prog_9_method_21_code 46 = .ok (.goto (-25), 3) := by decide +kernel
theorem d_Mod_distance_49 : decode prog_9_method_21_code 49 = .ok (.aload_n 0, 1) := by decide +kernel
theorem d_Mod_distance_50 : decode prog_9_method_21_code 50 = .ok (.iload 4, 2) := by decide +kernel
theorem d_Mod_distance_52 : decode prog_9_method_21_code 52 = .ok (.iload_n 1, 1) := by decide +kernel
theorem d_Mod_distance_53 : decode prog_9_method_21_code 53 = .ok (.iload_n 3, 1) := by decide +kernel
theorem d_Mod_distance_54 : decode prog_9_method_21_code 54 = .ok (.isub, 1) := by decide +kernel
theorem d_Mod_distance_55 : decode prog_9_method_21_code 55 = .ok (.iload_n 2, 1) := by decide +kernel
theorem d_Mod_distance_56 : decode prog_9_method_21_code 56 = .ok (.ishr, 1) := by decide +kernel
theorem d_Mod_distance_57 : decode prog_9_method_21_code 57 = .ok (.iadd, 1) := by decide +kernel
theorem d_Mod_distance_58 : decode prog_9_method_21_code 58 = .ok (.iconst 5, 1) := by decide +kernel
theorem d_Mod_distance_59 : decode prog_9_method_21_code 59 = .ok (.invokevirtual 68, 3) := by decide +kernel
theorem d_Mod_distance_62 : decode prog_9_method_21_code 62 = .ok (.aload_n 0, 1) := by decide +kernel
theorem d_Mod_distance_63 : decode prog_9_method_21_code 63 = .ok (.iload_n 1, 1) := by decide +kernel
theorem d_Mod_distance_64 : decode prog_9_method_21_code 64 = .ok (.iload_n 3, 1) := by decide +kernel
theorem d_Mod_distance_65 : decode prog_9_method_21_code 65 = .ok (.isub, 1) := by decide +kernel
theorem d_Mod_distance_66 : decode prog_9_method_21_code 66 = .ok (.iconst 1, 1) := by decide +kernel
theorem d_Mod_distance_67 : decode prog_9_method_21_code 67 = .ok (.iload_n 2, 1) := by decide +kernel
theorem d_Mod_distance_68 : decode prog_9_method_21_code 68 = .ok (.ishl, 1) := by decide +kernel
theorem d_Mod_distance_69 : decode prog_9_method_21_code 69 = .ok (.iconst 1, 1) := by decide +kernel
theorem d_Mod_distance_70 : decode prog_9_method_21_code 70 = .ok (.isub, 1) := by decide +kernel
theorem d_Mod_distance_71 : decode prog_9_method_21_code 71 = .ok (.iand, 1) := by decide +kernel
theorem d_Mod_distance_72 : decode prog_9_method_21_code 72 = .ok (.iload_n 2, 1) := by decide +kernel
theorem d_Mod_distance_73 : decode prog_9_method_21_code 73 = .ok (.invokevirtual 75, 3) := by decide +kernel
theorem d_Mod_distance_76 : decode prog_9_method_21_code 76 = .ok (.return_, 1) := by decide +kernel
abbrev y_Mod_distance : MethodName := ⟨"PicturePackerModel", "distance", "(I)V"⟩
def wp_Mod_distance_21 (n : Nat → Nat) (x1 : Int32) (post : Int32 × Int32 × (Nat → Int32) → Prop) : Nat → Int32 → Int32 → (Nat → Int32) → Int32 → Int32 → Int32 → Prop
  | 0 => fun _ _ _ _ _ _ => False
  | N + 1 => fun Mod_size Mod_bit mf y2 y3 y4 => ((x1 : Int32) < (y3 + (2 * ((1 : Int32) <<< (y2 &&& 31)))) → (wp_Mod_highest n Mod_size Mod_bit mf (y4 + ((x1 - y3 : Int32) >>> (y2 &&& 31))) 5 (fun u3 => wp_Mod_lowest n u3.1 u3.2.1 u3.2.2 ((x1 - y3) &&& (((1 : Int32) <<< (y2 &&& 31)) - 1)) y2 (fun u5 => post (u5.1, u5.2.1, u5.2.2))))) ∧ (¬ ((x1 : Int32) < (y3 + (2 * ((1 : Int32) <<< (y2 &&& 31))))) → (∀ z7 : Int32, z7 = (y3 + (2 * ((1 : Int32) <<< (y2 &&& 31)))) → (∀ z8 : Int32, z8 = (y4 + 2) → (∀ z9 : Int32, z9 = (y2 + 1) → (wp_Mod_distance_21 n x1 post N Mod_size Mod_bit mf z9 z7 z8)))))
def wp_Mod_distance (n : Nat → Nat) (Mod_size : Int32) (Mod_bit : Int32) (mf : Nat → Int32) (x1 : Int32) (post : Int32 × Int32 × (Nat → Int32) → Prop) : Prop := ((5 : Int32) ≤ x1 → (∃ N10 : Nat, wp_Mod_distance_21 n x1 post N10 Mod_size Mod_bit mf 1 5 4)) ∧ (¬ ((5 : Int32) ≤ x1) → (wp_Mod_highest n Mod_size Mod_bit mf (x1 - 1) 5 (fun u11 => post (u11.1, u11.2.1, u11.2.2))))
set_option maxHeartbeats 2000000 in
set_option maxRecDepth 20000 in
theorem s_Mod_distance_21 {l : Launch} {dC : Nat → ClassId} {dI : Nat → Nat → Nat} {cI : ClassId} {tb a n : Nat → Nat} {p : Program} {e : Env} {s : State} {m : MethodId} {args : Array Value} {below : List Frame} {meth : Method} {c : Code} {A : Nat → Prop} (E : CallFix p m c prog_9_method_21_code 5 s args TBL "PicturePackerModel") (hr : meth.sig.returnType = none) (hlk : meth.locks = false) {Mod_thrown : Int32} {Mod_width : Int32} {Mod_height : Int32} {Mod_many : Int32} {Mod_single : Int32} {Mod_runs : Int32} {Mod_longest : Int32} {x1 : Int32} {post : Int32 × Int32 × (Nat → Int32) → Prop} : ∀ (N : Nat) (Mod_size : Int32) (Mod_bit : Int32) (mf : Nat → Int32) (y2 : Int32) (y3 : Int32) (y4 : Int32) (H : Heap) (locs : List Loc) (ls : Array Slot), Wl classes dC dI cI tb A s H locs [e_Mod a Mod_thrown Mod_width Mod_height Mod_many Mod_size Mod_bit Mod_single Mod_runs Mod_longest, e_ar a n cI 17 mf] → lv_has ls 5 [(0, .ref (a 7)), (1, .int x1), (2, .int y2), (3, .int y3), (4, .int y4)] → wp_Mod_distance_21 n x1 post N Mod_size Mod_bit mf y2 y3 y4 → W p l e ({ frames := 3, cells := 0, slots := 0, locals := 65 }) s m args below meth c H locs 0 0 (MQ below (va_Qv post (fun u => End0 classes dC dI cI A [e_Mod a Mod_thrown Mod_width Mod_height Mod_many u.1 u.2.1 Mod_single Mod_runs Mod_longest, e_ar a n cI 17 u.2.2]) A) args s 0 0 A) (F0 m 21 ls []) := by
  obtain ⟨hx, hb, hml, hown, hts⟩ := id E
  intro N
  induction N with
  | zero =>
    intro _ _ _ _ _ _ H locs ls hw hl h
    exact absurd h id
  | succ N ih =>
    intro Mod_size Mod_bit mf y2 y3 y4 H locs ls hw hl h
    unfold wp_Mod_distance_21 at h
    refine lv_iload_n hx hb d_Mod_distance_21 rfl (lv_at hl 1 rfl) ?_
    refine lv_iload_n hx hb d_Mod_distance_22 rfl (lv_at hl 3 rfl) ?_
    refine lv_iconst (v := 2) hx hb d_Mod_distance_23 (by decide) ?_
    refine lv_iconst (v := 1) hx hb d_Mod_distance_24 (by decide) ?_
    refine lv_iload_n hx hb d_Mod_distance_25 rfl (lv_at hl 2 rfl) ?_
    refine lv_ishl hx hb d_Mod_distance_26 ?_
    refine lv_imul hx hb d_Mod_distance_27 ?_
    refine lv_iadd hx hb d_Mod_distance_28 ?_
    refine lv_icmp_lt (tgt := 49) hx hb d_Mod_distance_29 (by decide) (fun c2 => ?_) (fun c2 => ?_)
    · have h := h.1 c2
      refine lv_aload_n hx hb d_Mod_distance_49 rfl (lv_at hl 0 rfl) ?_
      refine lv_iload hx hb d_Mod_distance_50 (lv_at hl 4 rfl) ?_
      refine lv_iload_n hx hb d_Mod_distance_52 rfl (lv_at hl 1 rfl) ?_
      refine lv_iload_n hx hb d_Mod_distance_53 rfl (lv_at hl 3 rfl) ?_
      refine lv_isub hx hb d_Mod_distance_54 ?_
      refine lv_iload_n hx hb d_Mod_distance_55 rfl (lv_at hl 2 rfl) ?_
      refine lv_ishr hx hb d_Mod_distance_56 ?_
      refine lv_iadd hx hb d_Mod_distance_57 ?_
      refine lv_iconst (v := 5) hx hb d_Mod_distance_58 (by decide) ?_
      refine kVv (y := y_Mod_highest) (ws' := fun u3 => [e_Mod a Mod_thrown Mod_width Mod_height Mod_many u3.1 u3.2.1 Mod_single Mod_runs Mod_longest, e_ar a n cI 17 u3.2.2]) (wr := []) (As := [.int (y4 + ((x1 - y3 : Int32) >>> (y2 &&& 31))), .int 5]) (rest := []) E hw (c_Mod_highest (l := l) (dC := dC) (dI := dI) (cI := cI) (tb := tb) (a := a) (n := n) (Mod_thrown := Mod_thrown) (Mod_width := Mod_width) (Mod_height := Mod_height) (Mod_many := Mod_many) (Mod_size := Mod_size) (Mod_bit := Mod_bit) (Mod_single := Mod_single) (Mod_runs := Mod_runs) (Mod_longest := Mod_longest) (mf := mf) (x1 := y4 + ((x1 - y3 : Int32) >>> (y2 &&& 31))) (x2 := 5) h) tw550 tw552 tw30 tw44 tw553 2 (by decide) ⟨Nat.le_of_ble_eq_true rfl, Nat.le_of_ble_eq_true rfl⟩ ⟨Nat.le_of_ble_eq_true rfl, Nat.le_of_ble_eq_true rfl⟩ ⟨rfl, rfl⟩ rfl rfl 0 rfl [0, 1] [] [0, 1] rfl rfl rfl rfl (by decide) rfl (fun _ => rfl) hl.1 rfl rfl (Nat.le_of_ble_eq_true rfl) d_Mod_distance_59 (fun u3 H locs h hw => ?_)
      refine lv_aload_n hx hb d_Mod_distance_62 rfl (lv_at hl 0 rfl) ?_
      refine lv_iload_n hx hb d_Mod_distance_63 rfl (lv_at hl 1 rfl) ?_
      refine lv_iload_n hx hb d_Mod_distance_64 rfl (lv_at hl 3 rfl) ?_
      refine lv_isub hx hb d_Mod_distance_65 ?_
      refine lv_iconst (v := 1) hx hb d_Mod_distance_66 (by decide) ?_
      refine lv_iload_n hx hb d_Mod_distance_67 rfl (lv_at hl 2 rfl) ?_
      refine lv_ishl hx hb d_Mod_distance_68 ?_
      refine lv_iconst (v := 1) hx hb d_Mod_distance_69 (by decide) ?_
      refine lv_isub hx hb d_Mod_distance_70 ?_
      refine lv_iand hx hb d_Mod_distance_71 ?_
      refine lv_iload_n hx hb d_Mod_distance_72 rfl (lv_at hl 2 rfl) ?_
      refine kVv (y := y_Mod_lowest) (ws' := fun u5 => [e_Mod a Mod_thrown Mod_width Mod_height Mod_many u5.1 u5.2.1 Mod_single Mod_runs Mod_longest, e_ar a n cI 17 u5.2.2]) (wr := []) (As := [.int ((x1 - y3) &&& (((1 : Int32) <<< (y2 &&& 31)) - 1)), .int y2]) (rest := []) E hw (c_Mod_lowest (l := l) (dC := dC) (dI := dI) (cI := cI) (tb := tb) (a := a) (n := n) (Mod_thrown := Mod_thrown) (Mod_width := Mod_width) (Mod_height := Mod_height) (Mod_many := Mod_many) (Mod_size := u3.1) (Mod_bit := u3.2.1) (Mod_single := Mod_single) (Mod_runs := Mod_runs) (Mod_longest := Mod_longest) (mf := u3.2.2) (x1 := (x1 - y3) &&& (((1 : Int32) <<< (y2 &&& 31)) - 1)) (x2 := y2) h) tw554 tw556 tw31 tw44 tw557 2 (by decide) ⟨Nat.le_of_ble_eq_true rfl, Nat.le_of_ble_eq_true rfl⟩ ⟨Nat.le_of_ble_eq_true rfl, Nat.le_of_ble_eq_true rfl⟩ ⟨rfl, rfl⟩ rfl rfl 0 rfl [0, 1] [] [0, 1] rfl rfl rfl rfl (by decide) rfl (fun _ => rfl) hl.1 rfl rfl (Nat.le_of_ble_eq_true rfl) d_Mod_distance_73 (fun u5 H locs h hw => ?_)
      exact retV (out := fun u => [e_Mod a Mod_thrown Mod_width Mod_height Mod_many u.1 u.2.1 Mod_single Mod_runs Mod_longest, e_ar a n cI 17 u.2.2]) (u := (u5.1, u5.2.1, u5.2.2)) E hr hlk hw h d_Mod_distance_76
    · have h := h.2 c2
      refine lv_iload_n hx hb d_Mod_distance_32 rfl (lv_at hl 3 rfl) ?_
      refine lv_iconst (v := 2) hx hb d_Mod_distance_33 (by decide) ?_
      refine lv_iconst (v := 1) hx hb d_Mod_distance_34 (by decide) ?_
      refine lv_iload_n hx hb d_Mod_distance_35 rfl (lv_at hl 2 rfl) ?_
      refine lv_ishl hx hb d_Mod_distance_36 ?_
      refine lv_imul hx hb d_Mod_distance_37 ?_
      refine lv_iadd hx hb d_Mod_distance_38 ?_
      refine lv_topi (fun z7 ez7 => ?_)
      have h := h z7 ez7
      refine lv_istore_n (lv' := [(3, .int z7), (0, .ref (a 7)), (1, .int x1), (2, .int y2), (4, .int y4)]) hx hb d_Mod_distance_39 rfl hl (by decide) rfl (fun ls hl => ?_)
      obtain ⟨z8, ez8⟩ : ∃ z : Int32, z = y4 + 2 := ⟨_, rfl⟩
      have h := h z8 ez8
      refine lv_iinc (v := z8) (lv' := [(4, .int z8), (3, .int z7), (0, .ref (a 7)), (1, .int x1), (2, .int y2)]) hx hb d_Mod_distance_40 hl (k := 4) rfl (by rw [ez8]; exact congrArg (y4 + ·) (by decide)) (by decide) rfl (fun ls hl => ?_)
      obtain ⟨z9, ez9⟩ : ∃ z : Int32, z = y2 + 1 := ⟨_, rfl⟩
      have h := h z9 ez9
      refine lv_iinc (v := z9) (lv' := [(2, .int z9), (4, .int z8), (3, .int z7), (0, .ref (a 7)), (1, .int x1)]) hx hb d_Mod_distance_43 hl (k := 4) rfl (by rw [ez9]; exact congrArg (y2 + ·) (by decide)) (by decide) rfl (fun ls hl => ?_)
      refine lv_goto (tgt := 21) hx hb d_Mod_distance_46 (by decide) ?_
      exact ih Mod_size Mod_bit mf z9 z7 z8 _ _ ls hw (lv_sub hl [3, 4, 0, 2, 1] rfl) h
set_option maxHeartbeats 2000000 in
set_option maxRecDepth 20000 in
theorem c_Mod_distance {l : Launch} {dC : Nat → ClassId} {dI : Nat → Nat → Nat} {cI : ClassId} {tb a n : Nat → Nat} {Mod_thrown : Int32} {Mod_width : Int32} {Mod_height : Int32} {Mod_many : Int32} {Mod_size : Int32} {Mod_bit : Int32} {Mod_single : Int32} {Mod_runs : Int32} {Mod_longest : Int32} {mf : Nat → Int32} {x1 : Int32} {post : Int32 × Int32 × (Nat → Int32) → Prop} (h : wp_Mod_distance n Mod_size Mod_bit mf x1 post) : CtV classes dC dI cI tb l y_Mod_distance prog_9_method_21_code 5 ({ frames := 3, cells := 0, slots := 0, locals := 65 }) [.ref (a 7), .int x1] [e_Mod a Mod_thrown Mod_width Mod_height Mod_many Mod_size Mod_bit Mod_single Mod_runs Mod_longest, e_ar a n cI 17 mf] (Int32 × Int32 × (Nat → Int32)) (fun u => [e_Mod a Mod_thrown Mod_width Mod_height Mod_many u.1 u.2.1 Mod_single Mod_runs Mod_longest, e_ar a n cI 17 u.2.2]) post := by
  refine startV (by decide) (Nat.le_of_ble_eq_true rfl) ?_
  intro p e s m below meth c ls E hr hlk hnm hl hw
  have hl : lv_has ls 5 [(0, .ref (a 7)), (1, .int x1)] := hl
  generalize va_A [e_Mod a Mod_thrown Mod_width Mod_height Mod_many Mod_size Mod_bit Mod_single Mod_runs Mod_longest, e_ar a n cI 17 mf] s.heap.size = A at hw ⊢
  obtain ⟨hx, hb, hml, hown, hts⟩ := id E
  unfold wp_Mod_distance at h
  refine lv_iload_n hx hb d_Mod_distance_0 rfl (lv_at hl 1 rfl) ?_
  refine lv_iconst (v := 5) hx hb d_Mod_distance_1 (by decide) ?_
  refine lv_icmp_ge (tgt := 14) hx hb d_Mod_distance_2 (by decide) (fun c1 => ?_) (fun c1 => ?_)
  · have h := h.1 c1
    refine lv_iconst (v := 1) hx hb d_Mod_distance_14 (by decide) ?_
    refine lv_istore_n (lv' := [(2, .int 1), (0, .ref (a 7)), (1, .int x1)]) hx hb d_Mod_distance_15 rfl hl (by decide) rfl (fun ls hl => ?_)
    refine lv_iconst (v := 5) hx hb d_Mod_distance_16 (by decide) ?_
    refine lv_istore_n (lv' := [(3, .int 5), (2, .int 1), (0, .ref (a 7)), (1, .int x1)]) hx hb d_Mod_distance_17 rfl hl (by decide) rfl (fun ls hl => ?_)
    refine lv_iconst (v := 4) hx hb d_Mod_distance_18 (by decide) ?_
    refine lv_istore (lv' := [(4, .int 4), (3, .int 5), (2, .int 1), (0, .ref (a 7)), (1, .int x1)]) hx hb d_Mod_distance_19 hl (by decide) rfl (fun ls hl => ?_)
    obtain ⟨N10, h⟩ := h
    exact s_Mod_distance_21 (a := a) (n := n) (tb := tb) E hr hlk  N10 Mod_size Mod_bit mf 1 5 4 _ _ ls hw (lv_sub hl [3, 4, 2, 1, 0] rfl) h
  · have h := h.2 c1
    refine lv_aload_n hx hb d_Mod_distance_5 rfl (lv_at hl 0 rfl) ?_
    refine lv_iload_n hx hb d_Mod_distance_6 rfl (lv_at hl 1 rfl) ?_
    refine lv_iconst (v := 1) hx hb d_Mod_distance_7 (by decide) ?_
    refine lv_isub hx hb d_Mod_distance_8 ?_
    refine lv_iconst (v := 5) hx hb d_Mod_distance_9 (by decide) ?_
    refine kVv (y := y_Mod_highest) (ws' := fun u11 => [e_Mod a Mod_thrown Mod_width Mod_height Mod_many u11.1 u11.2.1 Mod_single Mod_runs Mod_longest, e_ar a n cI 17 u11.2.2]) (wr := []) (As := [.int (x1 - 1), .int 5]) (rest := []) E hw (c_Mod_highest (l := l) (dC := dC) (dI := dI) (cI := cI) (tb := tb) (a := a) (n := n) (Mod_thrown := Mod_thrown) (Mod_width := Mod_width) (Mod_height := Mod_height) (Mod_many := Mod_many) (Mod_size := Mod_size) (Mod_bit := Mod_bit) (Mod_single := Mod_single) (Mod_runs := Mod_runs) (Mod_longest := Mod_longest) (mf := mf) (x1 := x1 - 1) (x2 := 5) h) tw550 tw552 tw30 tw44 tw553 2 (by decide) ⟨Nat.le_of_ble_eq_true rfl, Nat.le_of_ble_eq_true rfl⟩ ⟨Nat.le_of_ble_eq_true rfl, Nat.le_of_ble_eq_true rfl⟩ ⟨rfl, rfl⟩ rfl rfl 0 rfl [0, 1] [] [0, 1] rfl rfl rfl rfl (by decide) rfl (fun _ => rfl) hl.1 rfl rfl (Nat.le_of_ble_eq_true rfl) d_Mod_distance_10 (fun u11 H locs h hw => ?_)
    exact retV (out := fun u => [e_Mod a Mod_thrown Mod_width Mod_height Mod_many u.1 u.2.1 Mod_single Mod_runs Mod_longest, e_ar a n cI 17 u.2.2]) (u := (u11.1, u11.2.1, u11.2.2)) E hr hlk hw h d_Mod_distance_13
-- PicturePackerModel.run(III)I
theorem d_Mod_run_0 : decode prog_9_method_22_code 0 = .ok (.iconst 0, 1) := by decide +kernel
theorem d_Mod_run_1 : decode prog_9_method_22_code 1 = .ok (.istore 4, 2) := by decide +kernel
theorem d_Mod_run_3 : decode prog_9_method_22_code 3 = .ok (.iload 4, 2) := by decide +kernel
theorem d_Mod_run_5 : decode prog_9_method_22_code 5 = .ok (.iload_n 3, 1) := by decide +kernel
theorem d_Mod_run_6 : decode prog_9_method_22_code 6 = .ok (.if_icmp .ge 32, 3) := by decide +kernel
theorem d_Mod_run_9 : decode prog_9_method_22_code 9 = .ok (.aload_n 0, 1) := by decide +kernel
theorem d_Mod_run_10 : decode prog_9_method_22_code 10 = .ok (.getfield 13, 3) := by decide +kernel
theorem d_Mod_run_13 : decode prog_9_method_22_code 13 = .ok (.iload_n 1, 1) := by decide +kernel
theorem d_Mod_run_14 : decode prog_9_method_22_code 14 = .ok (.iload 4, 2) := by decide +kernel
theorem d_Mod_run_16 : decode prog_9_method_22_code 16 = .ok (.iadd, 1) := by decide +kernel
theorem d_Mod_run_17 : decode prog_9_method_22_code 17 = .ok (.iaload, 1) := by decide +kernel
theorem d_Mod_run_18 : decode prog_9_method_22_code 18 = .ok (.aload_n 0, 1) := by decide +kernel
theorem d_Mod_run_19 : decode prog_9_method_22_code 19 = .ok (.getfield 13, 3) := by decide +kernel
theorem d_Mod_run_22 : decode prog_9_method_22_code 22 = .ok (.iload_n 1, 1) := by decide +kernel
theorem d_Mod_run_23 : decode prog_9_method_22_code 23 = .ok (.iload 4, 2) := by decide +kernel
theorem d_Mod_run_25 : decode prog_9_method_22_code 25 = .ok (.iadd, 1) := by decide +kernel
theorem d_Mod_run_26 : decode prog_9_method_22_code 26 = .ok (.iload_n 2, 1) := by decide +kernel
theorem d_Mod_run_27 : decode prog_9_method_22_code 27 = .ok (.isub, 1) := by decide +kernel
theorem d_Mod_run_28 : decode prog_9_method_22_code 28 = .ok (.iaload, 1) := by decide +kernel
theorem d_Mod_run_29 : decode prog_9_method_22_code 29 = .ok (.if_icmp .ne 9, 3) := by decide +kernel
theorem d_Mod_run_32 : decode prog_9_method_22_code 32 = .ok (.iinc 4 1, 3) := by decide +kernel
theorem d_Mod_run_35 : decode prog_9_method_22_code 35 = .ok (.goto (-32), 3) := by decide +kernel
theorem d_Mod_run_38 : decode prog_9_method_22_code 38 = .ok (.iload 4, 2) := by decide +kernel
theorem d_Mod_run_40 : decode prog_9_method_22_code 40 = .ok (.ireturn, 1) := by decide +kernel
abbrev y_Mod_run : MethodName := ⟨"PicturePackerModel", "run", "(III)I"⟩
def wp_Mod_run_3 (n : Nat → Nat) (mr : Nat → Int32) (x1 : Int32) (x2 : Int32) (x3 : Int32) (post : Int32 → Unit → Prop) : Nat → Int32 → Prop
  | 0 => fun _ => False
  | N + 1 => fun y4 => ((x3 : Int32) ≤ y4 → (post y4 ())) ∧ (¬ ((x3 : Int32) ≤ y4) → (vp_in (x1 + y4) (n 16) ∧ (vp_in ((x1 + y4) - x2) (n 16) ∧ ((¬ (mr (x1 + y4 : Int32).toNatClampNeg : Int32) = (mr ((x1 + y4) - x2 : Int32).toNatClampNeg) → (post y4 ())) ∧ ((mr (x1 + y4 : Int32).toNatClampNeg : Int32) = (mr ((x1 + y4) - x2 : Int32).toNatClampNeg) → (∀ z5 : Int32, z5 = (y4 + 1) → (wp_Mod_run_3 n mr x1 x2 x3 post N z5)))))))
def wp_Mod_run (n : Nat → Nat) (mr : Nat → Int32) (x1 : Int32) (x2 : Int32) (x3 : Int32) (post : Int32 → Unit → Prop) : Prop := ∃ N6 : Nat, wp_Mod_run_3 n mr x1 x2 x3 post N6 0
set_option maxHeartbeats 2000000 in
set_option maxRecDepth 20000 in
theorem s_Mod_run_3 {l : Launch} {dC : Nat → ClassId} {dI : Nat → Nat → Nat} {cI : ClassId} {tb a n : Nat → Nat} {p : Program} {e : Env} {s : State} {m : MethodId} {args : Array Value} {below : List Frame} {meth : Method} {c : Code} {A : Nat → Prop} (E : CallFix p m c prog_9_method_22_code 5 s args TBL "PicturePackerModel") (hr : meth.sig.returnType = some .int) (hlk : meth.locks = false) {Mod_thrown : Int32} {Mod_width : Int32} {Mod_height : Int32} {Mod_many : Int32} {Mod_size : Int32} {Mod_bit : Int32} {Mod_single : Int32} {Mod_runs : Int32} {Mod_longest : Int32} {mr : Nat → Int32} {x1 : Int32} {x2 : Int32} {x3 : Int32} {post : Int32 → Unit → Prop} : ∀ (N : Nat) (y4 : Int32) (H : Heap) (locs : List Loc) (ls : Array Slot), Wl classes dC dI cI tb A s H locs [e_Mod a Mod_thrown Mod_width Mod_height Mod_many Mod_size Mod_bit Mod_single Mod_runs Mod_longest, e_ar a n cI 16 mr] → lv_has ls 5 [(0, .ref (a 7)), (1, .int x1), (2, .int x2), (3, .int x3), (4, .int y4)] → wp_Mod_run_3 n mr x1 x2 x3 post N y4 → W p l e ({ frames := 0, cells := 0, slots := 0, locals := 0 }) s m args below meth c H locs 0 0 (MQ below (va_Qi post (fun u => End0 classes dC dI cI A [e_Mod a Mod_thrown Mod_width Mod_height Mod_many Mod_size Mod_bit Mod_single Mod_runs Mod_longest, e_ar a n cI 16 mr]) A) args s 0 0 A) (F0 m 3 ls []) := by
  obtain ⟨hx, hb, hml, hown, hts⟩ := id E
  intro N
  induction N with
  | zero =>
    intro _ H locs ls hw hl h
    exact absurd h id
  | succ N ih =>
    intro y4 H locs ls hw hl h
    unfold wp_Mod_run_3 at h
    refine lv_iload hx hb d_Mod_run_3 (lv_at hl 4 rfl) ?_
    refine lv_iload_n hx hb d_Mod_run_5 rfl (lv_at hl 3 rfl) ?_
    refine lv_icmp_ge (tgt := 38) hx hb d_Mod_run_6 (by decide) (fun c1 => ?_) (fun c1 => ?_)
    · have h := h.1 c1
      refine lv_iload hx hb d_Mod_run_38 (lv_at hl 4 rfl) ?_
      exact retI (out := fun u => [e_Mod a Mod_thrown Mod_width Mod_height Mod_many Mod_size Mod_bit Mod_single Mod_runs Mod_longest, e_ar a n cI 16 mr]) (u := ()) E hr hlk rfl hw h d_Mod_run_40
    · have h := h.2 c1
      refine lv_aload_n hx hb d_Mod_run_9 rfl (lv_at hl 0 rfl) ?_
      refine kget (v := .ref (a 16)) (T := F_Mod) E hw in_Mod rfl 0 4 rfl (by decide) tw439 rfl d_Mod_run_10 ?_
      refine lv_iload_n hx hb d_Mod_run_13 rfl (lv_at hl 1 rfl) ?_
      refine lv_iload hx hb d_Mod_run_14 (lv_at hl 4 rfl) ?_
      refine lv_iadd hx hb d_Mod_run_16 ?_
      obtain ⟨b2, h⟩ := h
      refine kald E hw 1 rfl b2 d_Mod_run_17 ?_
      refine lv_aload_n hx hb d_Mod_run_18 rfl (lv_at hl 0 rfl) ?_
      refine kget (v := .ref (a 16)) (T := F_Mod) E hw in_Mod rfl 0 4 rfl (by decide) tw439 rfl d_Mod_run_19 ?_
      refine lv_iload_n hx hb d_Mod_run_22 rfl (lv_at hl 1 rfl) ?_
      refine lv_iload hx hb d_Mod_run_23 (lv_at hl 4 rfl) ?_
      refine lv_iadd hx hb d_Mod_run_25 ?_
      refine lv_iload_n hx hb d_Mod_run_26 rfl (lv_at hl 2 rfl) ?_
      refine lv_isub hx hb d_Mod_run_27 ?_
      obtain ⟨b3, h⟩ := h
      refine kald E hw 1 rfl b3 d_Mod_run_28 ?_
      refine lv_icmp_ne (tgt := 38) hx hb d_Mod_run_29 (by decide) (fun c4 => ?_) (fun c4 => ?_)
      · have h := h.1 c4
        refine lv_iload hx hb d_Mod_run_38 (lv_at hl 4 rfl) ?_
        exact retI (out := fun u => [e_Mod a Mod_thrown Mod_width Mod_height Mod_many Mod_size Mod_bit Mod_single Mod_runs Mod_longest, e_ar a n cI 16 mr]) (u := ()) E hr hlk rfl hw h d_Mod_run_40
      · have h := h.2 c4
        obtain ⟨z5, ez5⟩ : ∃ z : Int32, z = y4 + 1 := ⟨_, rfl⟩
        have h := h z5 ez5
        refine lv_iinc (v := z5) (lv' := [(4, .int z5), (0, .ref (a 7)), (1, .int x1), (2, .int x2), (3, .int x3)]) hx hb d_Mod_run_32 hl (k := 4) rfl (by rw [ez5]; exact congrArg (y4 + ·) (by decide)) (by decide) rfl (fun ls hl => ?_)
        refine lv_goto (tgt := 3) hx hb d_Mod_run_35 (by decide) ?_
        exact ih z5 _ _ ls hw (lv_sub hl [1, 2, 3, 4, 0] rfl) h
set_option maxHeartbeats 2000000 in
set_option maxRecDepth 20000 in
theorem c_Mod_run {l : Launch} {dC : Nat → ClassId} {dI : Nat → Nat → Nat} {cI : ClassId} {tb a n : Nat → Nat} {Mod_thrown : Int32} {Mod_width : Int32} {Mod_height : Int32} {Mod_many : Int32} {Mod_size : Int32} {Mod_bit : Int32} {Mod_single : Int32} {Mod_runs : Int32} {Mod_longest : Int32} {mr : Nat → Int32} {x1 : Int32} {x2 : Int32} {x3 : Int32} {post : Int32 → Unit → Prop} (h : wp_Mod_run n mr x1 x2 x3 post) : CtI classes dC dI cI tb l y_Mod_run prog_9_method_22_code 5 .int ({ frames := 0, cells := 0, slots := 0, locals := 0 }) [.ref (a 7), .int x1, .int x2, .int x3] [e_Mod a Mod_thrown Mod_width Mod_height Mod_many Mod_size Mod_bit Mod_single Mod_runs Mod_longest, e_ar a n cI 16 mr] (Unit) (fun _ => [e_Mod a Mod_thrown Mod_width Mod_height Mod_many Mod_size Mod_bit Mod_single Mod_runs Mod_longest, e_ar a n cI 16 mr]) post := by
  refine startI (by decide) (Nat.le_of_ble_eq_true rfl) ?_
  intro p e s m below meth c ls E hr hlk hnm hl hw
  have hl : lv_has ls 5 [(0, .ref (a 7)), (1, .int x1), (2, .int x2), (3, .int x3)] := hl
  generalize va_A [e_Mod a Mod_thrown Mod_width Mod_height Mod_many Mod_size Mod_bit Mod_single Mod_runs Mod_longest, e_ar a n cI 16 mr] s.heap.size = A at hw ⊢
  obtain ⟨hx, hb, hml, hown, hts⟩ := id E
  unfold wp_Mod_run at h
  refine lv_iconst (v := 0) hx hb d_Mod_run_0 (by decide) ?_
  refine lv_istore (lv' := [(4, .int 0), (0, .ref (a 7)), (1, .int x1), (2, .int x2), (3, .int x3)]) hx hb d_Mod_run_1 hl (by decide) rfl (fun ls hl => ?_)
  obtain ⟨N6, h⟩ := h
  exact s_Mod_run_3 (a := a) (n := n) (tb := tb) E hr hlk  N6 0 _ _ ls hw (lv_sub hl [1, 2, 3, 4, 0] rfl) h
-- PicturePackerModel.pack()V
theorem d_Mod_pack_0 : decode prog_9_method_23_code 0 = .ok (.aload_n 0, 1) := by decide +kernel
theorem d_Mod_pack_1 : decode prog_9_method_23_code 1 = .ok (.iconst 1, 1) := by decide +kernel
theorem d_Mod_pack_2 : decode prog_9_method_23_code 2 = .ok (.invokevirtual 65, 3) := by decide +kernel
theorem d_Mod_pack_5 : decode prog_9_method_23_code 5 = .ok (.aload_n 0, 1) := by decide +kernel
theorem d_Mod_pack_6 : decode prog_9_method_23_code 6 = .ok (.iconst 1, 1) := by decide +kernel
theorem d_Mod_pack_7 : decode prog_9_method_23_code 7 = .ok (.invokevirtual 65, 3) := by decide +kernel
theorem d_Mod_pack_10 : decode prog_9_method_23_code 10 = .ok (.aload_n 0, 1) := by decide +kernel
theorem d_Mod_pack_11 : decode prog_9_method_23_code 11 = .ok (.iconst 0, 1) := by decide +kernel
theorem d_Mod_pack_12 : decode prog_9_method_23_code 12 = .ok (.invokevirtual 65, 3) := by decide +kernel
theorem d_Mod_pack_15 : decode prog_9_method_23_code 15 = .ok (.iconst 0, 1) := by decide +kernel
theorem d_Mod_pack_16 : decode prog_9_method_23_code 16 = .ok (.istore_n 1, 1) := by decide +kernel
theorem d_Mod_pack_17 : decode prog_9_method_23_code 17 = .ok (.iload_n 1, 1) := by decide +kernel
theorem d_Mod_pack_18 : decode prog_9_method_23_code 18 = .ok (.aload_n 0, 1) := by decide +kernel
theorem d_Mod_pack_19 : decode prog_9_method_23_code 19 = .ok (.getfield 45, 3) := by decide +kernel
theorem d_Mod_pack_22 : decode prog_9_method_23_code 22 = .ok (.if_icmp .ge 199, 3) := by decide +kernel
theorem d_Mod_pack_25 : decode prog_9_method_23_code 25 = .ok (.aload_n 0, 1) := by decide +kernel
theorem d_Mod_pack_26 : decode prog_9_method_23_code 26 = .ok (.getfield 45, 3) := by decide +kernel
theorem d_Mod_pack_29 : decode prog_9_method_23_code 29 = .ok (.iload_n 1, 1) := by decide +kernel
theorem d_Mod_pack_30 : decode prog_9_method_23_code 30 = .ok (.isub, 1) := by decide +kernel
theorem d_Mod_pack_31 : decode prog_9_method_23_code 31 = .ok (.sipush 258, 3) := by decide +kernel
theorem d_Mod_pack_34 : decode prog_9_method_23_code 34 = .ok (.if_icmp .ge 12, 3) := by decide +kernel
theorem d_Mod_pack_37 : decode prog_9_method_23_code 37 = .ok (.aload_n 0, 1) := by decide +kernel
theorem d_Mod_pack_38 : decode prog_9_method_23_code 38 = .ok (.getfield 45, 3) := by decide +kernel
theorem d_Mod_pack_41 : decode prog_9_method_23_code 41 = .ok (.iload_n 1, 1) := by decide +kernel
theorem d_Mod_pack_42 : decode prog_9_method_23_code 42 = .ok (.isub, 1) := by decide +kernel
theorem d_Mod_pack_43 : decode prog_9_method_23_code 43 = .ok (.goto 6, 3) := by decide +kernel
theorem d_Mod_pack_46 : decode prog_9_method_23_code 46 = .ok (.sipush 258, 3) := by decide +kernel
theorem d_Mod_pack_49 : decode prog_9_method_23_code 49 = .ok (.istore_n 2, 1) := by decide +kernel
theorem d_Mod_pack_50 : decode prog_9_method_23_code 50 = .ok (.iconst 2, 1) := by decide +kernel
theorem d_Mod_pack_51 : decode prog_9_method_23_code 51 = .ok (.istore_n 3, 1) := by decide +kernel
theorem d_Mod_pack_52 : decode prog_9_method_23_code 52 = .ok (.iconst 0, 1) := by decide +kernel
theorem d_Mod_pack_53 : decode prog_9_method_23_code 53 = .ok (.istore 4, 2) := by decide +kernel
theorem d_Mod_pack_55 : decode prog_9_method_23_code 55 = .ok (.iconst 1, 1) := by decide +kernel
theorem d_Mod_pack_56 : decode prog_9_method_23_code 56 = .ok (.istore 5, 2) := by decide +kernel
theorem d_Mod_pack_58 : decode prog_9_method_23_code 58 = .ok (.iload 5, 2) := by decide +kernel
theorem d_Mod_pack_60 : decode prog_9_method_23_code 60 = .ok (.iload_n 1, 1) := by decide +kernel
theorem d_Mod_pack_61 : decode prog_9_method_23_code 61 = .ok (.if_icmp .gt 81, 3) := by decide +kernel
theorem d_Mod_pack_64 : decode prog_9_method_23_code 64 = .ok (.iload 5, 2) := by decide +kernel
theorem d_Mod_pack_66 : decode prog_9_method_23_code 66 = .ok (.ldc 78, 2) := by decide +kernel
theorem d_Mod_pack_68 : decode prog_9_method_23_code 68 = .ok (.if_icmp .gt 74, 3) := by decide +kernel
theorem d_Mod_pack_71 : decode prog_9_method_23_code 71 = .ok (.iload_n 3, 1) := by decide +kernel
theorem d_Mod_pack_72 : decode prog_9_method_23_code 72 = .ok (.iload_n 2, 1) := by decide +kernel
theorem d_Mod_pack_73 : decode prog_9_method_23_code 73 = .ok (.if_icmp .ge 69, 3) := by decide +kernel
theorem d_Mod_pack_76 : decode prog_9_method_23_code 76 = .ok (.aload_n 0, 1) := by decide +kernel
theorem d_Mod_pack_77 : decode prog_9_method_23_code 77 = .ok (.getfield 13, 3) := by decide +kernel
theorem d_Mod_pack_80 : decode prog_9_method_23_code 80 = .ok (.iload_n 1, 1) := by decide +kernel
theorem d_Mod_pack_81 : decode prog_9_method_23_code 81 = .ok (.iload_n 3, 1) := by decide +kernel
theorem d_Mod_pack_82 : decode prog_9_method_23_code 82 = .ok (.iadd, 1) := by decide +kernel
theorem d_Mod_pack_83 : decode prog_9_method_23_code 83 = .ok (.iaload, 1) := by decide +kernel
theorem d_Mod_pack_84 : decode prog_9_method_23_code 84 = .ok (.aload_n 0, 1) := by decide +kernel
theorem d_Mod_pack_85 : decode prog_9_method_23_code 85 = .ok (.getfield 13, 3) := by decide +kernel
theorem d_Mod_pack_88 : decode prog_9_method_23_code 88 = .ok (.iload_n 1, 1) := by decide +kernel
theorem d_Mod_pack_89 : decode prog_9_method_23_code 89 = .ok (.iload_n 3, 1) := by decide +kernel
theorem d_Mod_pack_90 : decode prog_9_method_23_code 90 = .ok (.iadd, 1) := by decide +kernel
theorem d_Mod_pack_91 : decode prog_9_method_23_code 91 = .ok (.iload 5, 2) := by decide +kernel
theorem d_Mod_pack_93 : decode prog_9_method_23_code 93 = .ok (.isub, 1) := by decide +kernel
theorem d_Mod_pack_94 : decode prog_9_method_23_code 94 = .ok (.iaload, 1) := by decide +kernel
theorem d_Mod_pack_95 : decode prog_9_method_23_code 95 = .ok (.if_icmp .ne 41, 3) := by decide +kernel
theorem d_Mod_pack_98 : decode prog_9_method_23_code 98 = .ok (.aload_n 0, 1) := by decide +kernel
theorem d_Mod_pack_99 : decode prog_9_method_23_code 99 = .ok (.iload_n 1, 1) := by decide +kernel
theorem d_Mod_pack_100 : decode prog_9_method_23_code 100 = .ok (.iload 5, 2) := by decide +kernel
theorem d_Mod_pack_102 : decode prog_9_method_23_code 102 = .ok (.iload_n 2, 1) := by decide +kernel
theorem d_Mod_pack_103 : decode prog_9_method_23_code 103 = .ok (.invokevirtual 79, 3) := by decide +kernel
theorem d_Mod_pack_106 : decode prog_9_method_23_code 106 = .ok (.istore 6, 2) := by decide +kernel
theorem d_Mod_pack_108 : decode prog_9_method_23_code 108 = .ok (.iload 6, 2) := by decide +kernel
theorem d_Mod_pack_110 : decode prog_9_method_23_code 110 = .ok (.iload_n 3, 1) := by decide +kernel
theorem d_Mod_pack_111 : decode prog_9_method_23_code 111 = .ok (.if_icmp .le 8, 3) := by decide +kernel
theorem d_Mod_pack_114 : decode prog_9_method_23_code 114 = .ok (.iload 5, 2) := by decide +kernel
theorem d_Mod_pack_116 : decode prog_9_method_23_code 116 = .ok (.goto 5, 3) := by decide +kernel
theorem d_Mod_pack_119 : decode prog_9_method_23_code 119 = .ok (.iload 4, 2) := by decide +kernel
theorem d_Mod_pack_121 : decode prog_9_method_23_code 121 = .ok (.istore 4, 2) := by decide +kernel
theorem d_Mod_pack_123 : decode prog_9_method_23_code 123 = .ok (.iload 6, 2) := by decide +kernel
theorem d_Mod_pack_125 : decode prog_9_method_23_code 125 = .ok (.iload_n 3, 1) := by decide +kernel
theorem d_Mod_pack_126 : decode prog_9_method_23_code 126 = .ok (.if_icmp .le 8, 3) := by decide +kernel
theorem d_Mod_pack_129 : decode prog_9_method_23_code 129 = .ok (.iload 6, 2) := by decide +kernel
theorem d_Mod_pack_131 : decode prog_9_method_23_code 131 = .ok (.goto 4, 3) := by decide +kernel
theorem d_Mod_pack_134 : decode prog_9_method_23_code 134 = .ok (.iload_n 3, 1) := by decide +kernel
theorem d_Mod_pack_135 : decode prog_9_method_23_code 135 = .ok (.istore_n 3, 1) := by decide +kernel
theorem d_Mod_pack_136 : decode prog_9_method_23_code 136 = .ok (.iinc 5 1, 3) := by decide +kernel
theorem d_Mod_pack_139 : decode prog_9_method_23_code 139 = .ok (.goto (-81), 3) := by decide +kernel
theorem d_Mod_pack_142 : decode prog_9_method_23_code 142 = .ok (.iload 4, 2) := by decide +kernel
theorem d_Mod_pack_144 : decode prog_9_method_23_code 144 = .ok (.ifCond .le 51, 3) := by decide +kernel
theorem d_Mod_pack_147 : decode prog_9_method_23_code 147 = .ok (.aload_n 0, 1) := by decide +kernel
theorem d_Mod_pack_148 : decode prog_9_method_23_code 148 = .ok (.iload_n 3, 1) := by decide +kernel
theorem d_Mod_pack_149 : decode prog_9_method_23_code 149 = .ok (.invokevirtual 82, 3) := by decide +kernel
theorem d_Mod_pack_152 : decode prog_9_method_23_code 152 = .ok (.aload_n 0, 1) := by decide +kernel
theorem d_Mod_pack_153 : decode prog_9_method_23_code 153 = .ok (.iload 4, 2) := by decide +kernel
theorem d_Mod_pack_155 : decode prog_9_method_23_code 155 = .ok (.invokevirtual 85, 3) := by decide +kernel
theorem d_Mod_pack_158 : decode prog_9_method_23_code 158 = .ok (.aload_n 0, 1) := by decide +kernel
theorem d_Mod_pack_159 : decode prog_9_method_23_code 159 = .ok (.dup, 1) := by decide +kernel
theorem d_Mod_pack_160 : decode prog_9_method_23_code 160 = .ok (.getfield 88, 3) := by decide +kernel
theorem d_Mod_pack_163 : decode prog_9_method_23_code 163 = .ok (.iconst 1, 1) := by decide +kernel
theorem d_Mod_pack_164 : decode prog_9_method_23_code 164 = .ok (.iadd, 1) := by decide +kernel
theorem d_Mod_pack_165 : decode prog_9_method_23_code 165 = .ok (.putfield 88, 3) := by decide +kernel
theorem d_Mod_pack_168 : decode prog_9_method_23_code 168 = .ok (.aload_n 0, 1) := by decide +kernel
theorem d_Mod_pack_169 : decode prog_9_method_23_code 169 = .ok (.iload_n 3, 1) := by decide +kernel
theorem d_Mod_pack_170 : decode prog_9_method_23_code 170 = .ok (.aload_n 0, 1) := by decide +kernel
theorem d_Mod_pack_171 : decode prog_9_method_23_code 171 = .ok (.getfield 91, 3) := by decide +kernel
theorem d_Mod_pack_174 : decode prog_9_method_23_code 174 = .ok (.if_icmp .le 7, 3) := by decide +kernel
theorem d_Mod_pack_177 : decode prog_9_method_23_code 177 = .ok (.iload_n 3, 1) := by decide +kernel
theorem d_Mod_pack_178 : decode prog_9_method_23_code 178 = .ok (.goto 7, 3) := by decide +kernel
theorem d_Mod_pack_181 : decode prog_9_method_23_code 181 = .ok (.aload_n 0, 1) := by decide +kernel
theorem d_Mod_pack_182 : decode prog_9_method_23_code 182 = .ok (.getfield 91, 3) := by decide +kernel
theorem d_Mod_pack_185 : decode prog_9_method_23_code 185 = .ok (.putfield 91, 3) := by decide +kernel
theorem d_Mod_pack_188 : decode prog_9_method_23_code 188 = .ok (.iload_n 1, 1) := by decide +kernel
theorem d_Mod_pack_189 : decode prog_9_method_23_code 189 = .ok (.iload_n 3, 1) := by decide +kernel
theorem d_Mod_pack_190 : decode prog_9_method_23_code 190 = .ok (.iadd, 1) := by decide +kernel
theorem d_Mod_pack_191 : decode prog_9_method_23_code 191 = .ok (.istore_n 1, 1) := by decide +kernel
theorem d_Mod_pack_192 : decode prog_9_method_23_code 192 = .ok (.goto 26, 3) := by decide +kernel
theorem d_Mod_pack_195 : decode prog_9_method_23_code 195 = .ok (.aload_n 0, 1) := by decide +kernel
theorem d_Mod_pack_196 : decode prog_9_method_23_code 196 = .ok (.aload_n 0, 1) := by decide +kernel
theorem d_Mod_pack_197 : decode prog_9_method_23_code 197 = .ok (.getfield 13, 3) := by decide +kernel
theorem d_Mod_pack_200 : decode prog_9_method_23_code 200 = .ok (.iload_n 1, 1) := by decide +kernel
theorem d_Mod_pack_201 : decode prog_9_method_23_code 201 = .ok (.iaload, 1) := by decide +kernel
theorem d_Mod_pack_202 : decode prog_9_method_23_code 202 = .ok (.invokevirtual 72, 3) := by decide +kernel
theorem d_Mod_pack_205 : decode prog_9_method_23_code 205 = .ok (.aload_n 0, 1) := by decide +kernel
theorem d_Mod_pack_206 : decode prog_9_method_23_code 206 = .ok (.dup, 1) := by decide +kernel
theorem d_Mod_pack_207 : decode prog_9_method_23_code 207 = .ok (.getfield 94, 3) := by decide +kernel
theorem d_Mod_pack_210 : decode prog_9_method_23_code 210 = .ok (.iconst 1, 1) := by decide +kernel
theorem d_Mod_pack_211 : decode prog_9_method_23_code 211 = .ok (.iadd, 1) := by decide +kernel
theorem d_Mod_pack_212 : decode prog_9_method_23_code 212 = .ok (.putfield 94, 3) := by decide +kernel
theorem d_Mod_pack_215 : decode prog_9_method_23_code 215 = .ok (.iinc 1 1, 3) := by decide +kernel
theorem d_Mod_pack_218 : decode prog_9_method_23_code 218 = .ok (.goto (-201), 3) := by decide +kernel
theorem d_Mod_pack_221 : decode prog_9_method_23_code 221 = .ok (.aload_n 0, 1) := by decide +kernel
theorem d_Mod_pack_222 : decode prog_9_method_23_code 222 = .ok (.sipush 256, 3) := by decide +kernel
theorem d_Mod_pack_225 : decode prog_9_method_23_code 225 = .ok (.invokevirtual 72, 3) := by decide +kernel
theorem d_Mod_pack_228 : decode prog_9_method_23_code 228 = .ok (.aload_n 0, 1) := by decide +kernel
theorem d_Mod_pack_229 : decode prog_9_method_23_code 229 = .ok (.iconst 0, 1) := by decide +kernel
theorem d_Mod_pack_230 : decode prog_9_method_23_code 230 = .ok (.putfield 62, 3) := by decide +kernel
theorem d_Mod_pack_233 : decode prog_9_method_23_code 233 = .ok (.return_, 1) := by decide +kernel
abbrev y_Mod_pack : MethodName := ⟨"PicturePackerModel", "pack", "()V"⟩
def wp_Mod_pack_142 (n : Nat → Nat) (Mod_many : Int32) (mr : Nat → Int32) (post : Int32 × Int32 × Int32 × Int32 × Int32 × (Nat → Int32) → Prop) (k17 : Int32 → Int32 → Int32 → Int32 → Int32 → (Nat → Int32) → Int32 → Prop) (Mod_size : Int32) (Mod_bit : Int32) (Mod_single : Int32) (Mod_runs : Int32) (Mod_longest : Int32) (mf : Nat → Int32) (y1 : Int32) (y3 : Int32) (y4 : Int32) : Prop := ((y4 : Int32) ≤ 0 → (vp_in y1 (n 16) ∧ (wp_Mod_sign n Mod_size Mod_bit mf (mr (y1 : Int32).toNatClampNeg) (fun u14 => ∀ z16 : Int32, z16 = (Mod_single + 1) → (∀ z17 : Int32, z17 = (y1 + 1) → (k17 u14.1 u14.2.1 z16 Mod_runs Mod_longest u14.2.2 z17)))))) ∧ (¬ ((y4 : Int32) ≤ 0) → (wp_Mod_length n Mod_size Mod_bit mf y3 (fun u18 => wp_Mod_distance n u18.1 u18.2.1 u18.2.2 y4 (fun u20 => ∀ z22 : Int32, z22 = (Mod_runs + 1) → (((y3 : Int32) ≤ Mod_longest → (∀ z24 : Int32, z24 = (y1 + y3) → (k17 u20.1 u20.2.1 Mod_single z22 Mod_longest u20.2.2 z24))) ∧ (¬ ((y3 : Int32) ≤ Mod_longest) → (∀ z25 : Int32, z25 = (y1 + y3) → (k17 u20.1 u20.2.1 Mod_single z22 y3 u20.2.2 z25))))))))
def wp_Mod_pack_121 (n : Nat → Nat) (Mod_many : Int32) (mr : Nat → Int32) (post : Int32 × Int32 × Int32 × Int32 × Int32 × (Nat → Int32) → Prop) (k17 : Int32 → Int32 → Int32 → Int32 → Int32 → (Nat → Int32) → Int32 → Prop) (k58 : Int32 → Int32 → Int32 → Int32 → Int32 → (Nat → Int32) → Int32 → Int32 → Int32 → Int32 → Int32 → Prop) (Mod_size : Int32) (Mod_bit : Int32) (Mod_single : Int32) (Mod_runs : Int32) (Mod_longest : Int32) (mf : Nat → Int32) (t0 : Int32) (y1 : Int32) (y2 : Int32) (y3 : Int32) (y5 : Int32) (y6 : Int32) : Prop := ((y6 : Int32) ≤ y3 → (∀ z36 : Int32, z36 = (y5 + 1) → (k58 Mod_size Mod_bit Mod_single Mod_runs Mod_longest mf y1 y2 y3 t0 z36))) ∧ (¬ ((y6 : Int32) ≤ y3) → (∀ z37 : Int32, z37 = (y5 + 1) → (k58 Mod_size Mod_bit Mod_single Mod_runs Mod_longest mf y1 y2 y6 t0 z37)))
def wp_Mod_pack_58 (n : Nat → Nat) (Mod_many : Int32) (mr : Nat → Int32) (post : Int32 × Int32 × Int32 × Int32 × Int32 × (Nat → Int32) → Prop) (k17 : Int32 → Int32 → Int32 → Int32 → Int32 → (Nat → Int32) → Int32 → Prop) : Nat → Int32 → Int32 → Int32 → Int32 → Int32 → (Nat → Int32) → Int32 → Int32 → Int32 → Int32 → Int32 → Prop
  | 0 => fun _ _ _ _ _ _ _ _ _ _ _ => False
  | N + 1 => fun Mod_size Mod_bit Mod_single Mod_runs Mod_longest mf y1 y2 y3 y4 y5 => ((y1 : Int32) < y5 → (wp_Mod_pack_142 n Mod_many mr post k17 Mod_size Mod_bit Mod_single Mod_runs Mod_longest mf y1 y3 y4)) ∧ (¬ ((y1 : Int32) < y5) → (((32768 : Int32) < y5 → (wp_Mod_pack_142 n Mod_many mr post k17 Mod_size Mod_bit Mod_single Mod_runs Mod_longest mf y1 y3 y4)) ∧ (¬ ((32768 : Int32) < y5) → (((y2 : Int32) ≤ y3 → (wp_Mod_pack_142 n Mod_many mr post k17 Mod_size Mod_bit Mod_single Mod_runs Mod_longest mf y1 y3 y4)) ∧ (¬ ((y2 : Int32) ≤ y3) → (vp_in (y1 + y3) (n 16) ∧ (vp_in ((y1 + y3) - y5) (n 16) ∧ ((¬ (mr (y1 + y3 : Int32).toNatClampNeg : Int32) = (mr ((y1 + y3) - y5 : Int32).toNatClampNeg) → (∀ z31 : Int32, z31 = (y5 + 1) → (wp_Mod_pack_58 n Mod_many mr post k17 N Mod_size Mod_bit Mod_single Mod_runs Mod_longest mf y1 y2 y3 y4 z31))) ∧ ((mr (y1 + y3 : Int32).toNatClampNeg : Int32) = (mr ((y1 + y3) - y5 : Int32).toNatClampNeg) → (wp_Mod_run n mr y1 y5 y2 (fun r33 _ => ((r33 : Int32) ≤ y3 → (wp_Mod_pack_121 n Mod_many mr post k17 (wp_Mod_pack_58 n Mod_many mr post k17 N) Mod_size Mod_bit Mod_single Mod_runs Mod_longest mf y4 y1 y2 y3 y5 r33)) ∧ (¬ ((r33 : Int32) ≤ y3) → (wp_Mod_pack_121 n Mod_many mr post k17 (wp_Mod_pack_58 n Mod_many mr post k17 N) Mod_size Mod_bit Mod_single Mod_runs Mod_longest mf y5 y1 y2 y3 y5 r33)))))))))))))
def wp_Mod_pack_17 (n : Nat → Nat) (Mod_many : Int32) (mr : Nat → Int32) (post : Int32 × Int32 × Int32 × Int32 × Int32 × (Nat → Int32) → Prop) : Nat → Int32 → Int32 → Int32 → Int32 → Int32 → (Nat → Int32) → Int32 → Prop
  | 0 => fun _ _ _ _ _ _ _ => False
  | N + 1 => fun Mod_size Mod_bit Mod_single Mod_runs Mod_longest mf y1 => ((Mod_many : Int32) ≤ y1 → (wp_Mod_sign n Mod_size Mod_bit mf 256 (fun u8 => post (u8.1, 0, Mod_single, Mod_runs, Mod_longest, u8.2.2)))) ∧ (¬ ((Mod_many : Int32) ≤ y1) → (((258 : Int32) ≤ (Mod_many - y1) → (∃ N38 : Nat, wp_Mod_pack_58 n Mod_many mr post (wp_Mod_pack_17 n Mod_many mr post N) N38 Mod_size Mod_bit Mod_single Mod_runs Mod_longest mf y1 258 2 0 1)) ∧ (¬ ((258 : Int32) ≤ (Mod_many - y1)) → (∀ z39 : Int32, z39 = (Mod_many - y1) → (∃ N40 : Nat, wp_Mod_pack_58 n Mod_many mr post (wp_Mod_pack_17 n Mod_many mr post N) N40 Mod_size Mod_bit Mod_single Mod_runs Mod_longest mf y1 z39 2 0 1)))))
def wp_Mod_pack (n : Nat → Nat) (Mod_many : Int32) (Mod_size : Int32) (Mod_bit : Int32) (Mod_single : Int32) (Mod_runs : Int32) (Mod_longest : Int32) (mr : Nat → Int32) (mf : Nat → Int32) (post : Int32 × Int32 × Int32 × Int32 × Int32 × (Nat → Int32) → Prop) : Prop := wp_Mod_next n Mod_size Mod_bit mf 1 (fun u1 => wp_Mod_next n u1.1 u1.2.1 u1.2.2 1 (fun u3 => wp_Mod_next n u3.1 u3.2.1 u3.2.2 0 (fun u5 => ∃ N41 : Nat, wp_Mod_pack_17 n Mod_many mr post N41 u5.1 u5.2.1 Mod_single Mod_runs Mod_longest u5.2.2 0)))
set_option maxHeartbeats 2000000 in
set_option maxRecDepth 20000 in
theorem s_Mod_pack_142 {l : Launch} {dC : Nat → ClassId} {dI : Nat → Nat → Nat} {cI : ClassId} {tb a n : Nat → Nat} {p : Program} {e : Env} {s : State} {m : MethodId} {args : Array Value} {below : List Frame} {meth : Method} {c : Code} {A : Nat → Prop} (E : CallFix p m c prog_9_method_23_code 7 s args TBL "PicturePackerModel") (hr : meth.sig.returnType = none) (hlk : meth.locks = false) {Mod_thrown : Int32} {Mod_width : Int32} {Mod_height : Int32} {Mod_many : Int32} {mr : Nat → Int32} {post : Int32 × Int32 × Int32 × Int32 × Int32 × (Nat → Int32) → Prop} {k17 : Int32 → Int32 → Int32 → Int32 → Int32 → (Nat → Int32) → Int32 → Prop} (hk17 : ∀ (Mod_size : Int32) (Mod_bit : Int32) (Mod_single : Int32) (Mod_runs : Int32) (Mod_longest : Int32) (mf : Nat → Int32) (y1 : Int32) (H : Heap) (locs : List Loc) (ls : Array Slot), Wl classes dC dI cI tb A s H locs [e_Mod a Mod_thrown Mod_width Mod_height Mod_many Mod_size Mod_bit Mod_single Mod_runs Mod_longest, e_ar a n cI 16 mr, e_ar a n cI 17 mf] → lv_has ls 7 [(0, .ref (a 7)), (1, .int y1)] → k17 Mod_size Mod_bit Mod_single Mod_runs Mod_longest mf y1 → W p l e ({ frames := 5, cells := 0, slots := 0, locals := 110 }) s m args below meth c H locs 0 0 (MQ below (va_Qv post (fun u => End0 classes dC dI cI A [e_Mod a Mod_thrown Mod_width Mod_height Mod_many u.1 u.2.1 u.2.2.1 u.2.2.2.1 u.2.2.2.2.1, e_ar a n cI 16 mr, e_ar a n cI 17 u.2.2.2.2.2]) A) args s 0 0 A) (F0 m 17 ls [])) : ∀ (Mod_size : Int32) (Mod_bit : Int32) (Mod_single : Int32) (Mod_runs : Int32) (Mod_longest : Int32) (mf : Nat → Int32) (y1 : Int32) (y3 : Int32) (y4 : Int32) (H : Heap) (locs : List Loc) (ls : Array Slot), Wl classes dC dI cI tb A s H locs [e_Mod a Mod_thrown Mod_width Mod_height Mod_many Mod_size Mod_bit Mod_single Mod_runs Mod_longest, e_ar a n cI 16 mr, e_ar a n cI 17 mf] → lv_has ls 7 [(0, .ref (a 7)), (1, .int y1), (3, .int y3), (4, .int y4)] → wp_Mod_pack_142 n Mod_many mr post k17 Mod_size Mod_bit Mod_single Mod_runs Mod_longest mf y1 y3 y4 → W p l e ({ frames := 5, cells := 0, slots := 0, locals := 110 }) s m args below meth c H locs 0 0 (MQ below (va_Qv post (fun u => End0 classes dC dI cI A [e_Mod a Mod_thrown Mod_width Mod_height Mod_many u.1 u.2.1 u.2.2.1 u.2.2.2.1 u.2.2.2.2.1, e_ar a n cI 16 mr, e_ar a n cI 17 u.2.2.2.2.2]) A) args s 0 0 A) (F0 m 142 ls []) := by
  obtain ⟨hx, hb, hml, hown, hts⟩ := id E
  intro Mod_size Mod_bit Mod_single Mod_runs Mod_longest mf y1 y3 y4 H locs ls hw hl h
  unfold wp_Mod_pack_142 at h
  refine lv_iload hx hb d_Mod_pack_142 (lv_at hl 3 rfl) ?_
  refine lv_if_le (tgt := 195) hx hb d_Mod_pack_144 (by decide) (fun c12 => ?_) (fun c12 => ?_)
  · have h := h.1 c12
    refine lv_aload_n hx hb d_Mod_pack_195 rfl (lv_at hl 0 rfl) ?_
    refine lv_aload_n hx hb d_Mod_pack_196 rfl (lv_at hl 0 rfl) ?_
    refine kget (v := .ref (a 16)) (T := F_Mod) E hw in_Mod rfl 0 4 rfl (by decide) tw439 rfl d_Mod_pack_197 ?_
    refine lv_iload_n hx hb d_Mod_pack_200 rfl (lv_at hl 1 rfl) ?_
    obtain ⟨b13, h⟩ := h
    refine kald E hw 1 rfl b13 d_Mod_pack_201 ?_
    refine kVv (y := y_Mod_sign) (ws' := fun u14 => [e_Mod a Mod_thrown Mod_width Mod_height Mod_many u14.1 u14.2.1 Mod_single Mod_runs Mod_longest, e_ar a n cI 16 mr, e_ar a n cI 17 u14.2.2]) (wr := [e_ar a n cI 16 mr]) (As := [.int (mr (y1 : Int32).toNatClampNeg)]) (rest := []) E hw (c_Mod_sign (l := l) (dC := dC) (dI := dI) (cI := cI) (tb := tb) (a := a) (n := n) (Mod_thrown := Mod_thrown) (Mod_width := Mod_width) (Mod_height := Mod_height) (Mod_many := Mod_many) (Mod_size := Mod_size) (Mod_bit := Mod_bit) (Mod_single := Mod_single) (Mod_runs := Mod_runs) (Mod_longest := Mod_longest) (mf := mf) (x1 := mr (y1 : Int32).toNatClampNeg) h) tw546 tw548 tw29 tw44 tw549 1 (by decide) ⟨Nat.le_of_ble_eq_true rfl, Nat.le_of_ble_eq_true rfl⟩ ⟨Nat.le_of_ble_eq_true rfl, Nat.le_of_ble_eq_true rfl⟩ ⟨rfl, rfl⟩ rfl rfl 0 rfl [0, 2] [1] [1, 0, 2] rfl rfl rfl rfl (by decide) rfl (fun _ => rfl) hl.1 rfl rfl (Nat.le_of_ble_eq_true rfl) d_Mod_pack_202 (fun u14 H locs h hw => ?_)
    refine lv_aload_n hx hb d_Mod_pack_205 rfl (lv_at hl 0 rfl) ?_
    refine lv_dup hx hb d_Mod_pack_206 rfl ?_
    refine kget (v := .int Mod_single) (T := F_Mod) E hw in_Mod rfl 0 9 rfl (by decide) tw444 rfl d_Mod_pack_207 ?_
    refine lv_iconst (v := 1) hx hb d_Mod_pack_210 (by decide) ?_
    refine lv_iadd hx hb d_Mod_pack_211 ?_
    refine lv_topi (fun z16 ez16 => ?_)
    have h := h z16 ez16
    refine kput (v := .int z16) (ty := .int) (T := F_Mod) (ws' := [e_Mod a Mod_thrown Mod_width Mod_height Mod_many u14.1 u14.2.1 z16 Mod_runs Mod_longest, e_ar a n cI 16 mr, e_ar a n cI 17 u14.2.2]) E hw in_Mod t_Mod t_Mod_ok n_Mod rfl 0 9 rfl (by decide) tw444 rfl rfl rfl rfl (Nat.le_of_ble_eq_true rfl) rfl d_Mod_pack_212 (fun H locs hw => ?_)
    obtain ⟨z17, ez17⟩ : ∃ z : Int32, z = y1 + 1 := ⟨_, rfl⟩
    have h := h z17 ez17
    refine lv_iinc (v := z17) (lv' := [(1, .int z17), (0, .ref (a 7)), (3, .int y3), (4, .int y4)]) hx hb d_Mod_pack_215 hl (k := 1) rfl (by rw [ez17]; exact congrArg (y1 + ·) (by decide)) (by decide) rfl (fun ls hl => ?_)
    refine lv_goto (tgt := 17) hx hb d_Mod_pack_218 (by decide) ?_
    exact hk17 u14.1 u14.2.1 z16 Mod_runs Mod_longest u14.2.2 z17 _ _ ls hw (lv_sub hl [1, 0] rfl) h
  · have h := h.2 c12
    refine lv_aload_n hx hb d_Mod_pack_147 rfl (lv_at hl 0 rfl) ?_
    refine lv_iload_n hx hb d_Mod_pack_148 rfl (lv_at hl 2 rfl) ?_
    refine kVv (y := y_Mod_length) (ws' := fun u18 => [e_Mod a Mod_thrown Mod_width Mod_height Mod_many u18.1 u18.2.1 Mod_single Mod_runs Mod_longest, e_ar a n cI 16 mr, e_ar a n cI 17 u18.2.2]) (wr := [e_ar a n cI 16 mr]) (As := [.int y3]) (rest := []) E hw (c_Mod_length (l := l) (dC := dC) (dI := dI) (cI := cI) (tb := tb) (a := a) (n := n) (Mod_thrown := Mod_thrown) (Mod_width := Mod_width) (Mod_height := Mod_height) (Mod_many := Mod_many) (Mod_size := Mod_size) (Mod_bit := Mod_bit) (Mod_single := Mod_single) (Mod_runs := Mod_runs) (Mod_longest := Mod_longest) (mf := mf) (x1 := y3) h) tw542 tw544 tw28 tw44 tw545 1 (by decide) ⟨Nat.le_of_ble_eq_true rfl, Nat.le_of_ble_eq_true rfl⟩ ⟨Nat.le_of_ble_eq_true rfl, Nat.le_of_ble_eq_true rfl⟩ ⟨rfl, rfl⟩ rfl rfl 0 rfl [0, 2] [1] [1, 0, 2] rfl rfl rfl rfl (by decide) rfl (fun _ => rfl) hl.1 rfl rfl (Nat.le_of_ble_eq_true rfl) d_Mod_pack_149 (fun u18 H locs h hw => ?_)
    refine lv_aload_n hx hb d_Mod_pack_152 rfl (lv_at hl 0 rfl) ?_
    refine lv_iload hx hb d_Mod_pack_153 (lv_at hl 3 rfl) ?_
    refine kVv (y := y_Mod_distance) (ws' := fun u20 => [e_Mod a Mod_thrown Mod_width Mod_height Mod_many u20.1 u20.2.1 Mod_single Mod_runs Mod_longest, e_ar a n cI 16 mr, e_ar a n cI 17 u20.2.2]) (wr := [e_ar a n cI 16 mr]) (As := [.int y4]) (rest := []) E hw (c_Mod_distance (l := l) (dC := dC) (dI := dI) (cI := cI) (tb := tb) (a := a) (n := n) (Mod_thrown := Mod_thrown) (Mod_width := Mod_width) (Mod_height := Mod_height) (Mod_many := Mod_many) (Mod_size := u18.1) (Mod_bit := u18.2.1) (Mod_single := Mod_single) (Mod_runs := Mod_runs) (Mod_longest := Mod_longest) (mf := u18.2.2) (x1 := y4) h) tw558 tw560 tw32 tw44 tw561 1 (by decide) ⟨Nat.le_of_ble_eq_true rfl, Nat.le_of_ble_eq_true rfl⟩ ⟨Nat.le_of_ble_eq_true rfl, Nat.le_of_ble_eq_true rfl⟩ ⟨rfl, rfl⟩ rfl rfl 0 rfl [0, 2] [1] [1, 0, 2] rfl rfl rfl rfl (by decide) rfl (fun _ => rfl) hl.1 rfl rfl (Nat.le_of_ble_eq_true rfl) d_Mod_pack_155 (fun u20 H locs h hw => ?_)
    refine lv_aload_n hx hb d_Mod_pack_158 rfl (lv_at hl 0 rfl) ?_
    refine lv_dup hx hb d_Mod_pack_159 rfl ?_
    refine kget (v := .int Mod_runs) (T := F_Mod) E hw in_Mod rfl 0 10 rfl (by decide) tw445 rfl d_Mod_pack_160 ?_
    refine lv_iconst (v := 1) hx hb d_Mod_pack_163 (by decide) ?_
    refine lv_iadd hx hb d_Mod_pack_164 ?_
    refine lv_topi (fun z22 ez22 => ?_)
    have h := h z22 ez22
    refine kput (v := .int z22) (ty := .int) (T := F_Mod) (ws' := [e_Mod a Mod_thrown Mod_width Mod_height Mod_many u20.1 u20.2.1 Mod_single z22 Mod_longest, e_ar a n cI 16 mr, e_ar a n cI 17 u20.2.2]) E hw in_Mod t_Mod t_Mod_ok n_Mod rfl 0 10 rfl (by decide) tw445 rfl rfl rfl rfl (Nat.le_of_ble_eq_true rfl) rfl d_Mod_pack_165 (fun H locs hw => ?_)
    refine lv_aload_n hx hb d_Mod_pack_168 rfl (lv_at hl 0 rfl) ?_
    refine lv_iload_n hx hb d_Mod_pack_169 rfl (lv_at hl 2 rfl) ?_
    refine lv_aload_n hx hb d_Mod_pack_170 rfl (lv_at hl 0 rfl) ?_
    refine kget (v := .int Mod_longest) (T := F_Mod) E hw in_Mod rfl 0 11 rfl (by decide) tw446 rfl d_Mod_pack_171 ?_
    refine lv_icmp_le (tgt := 181) hx hb d_Mod_pack_174 (by decide) (fun c23 => ?_) (fun c23 => ?_)
    · have h := h.1 c23
      refine lv_aload_n hx hb d_Mod_pack_181 rfl (lv_at hl 0 rfl) ?_
      refine kget (v := .int Mod_longest) (T := F_Mod) E hw in_Mod rfl 0 11 rfl (by decide) tw446 rfl d_Mod_pack_182 ?_
      refine kput (v := .int Mod_longest) (ty := .int) (T := F_Mod) (ws' := [e_Mod a Mod_thrown Mod_width Mod_height Mod_many u20.1 u20.2.1 Mod_single z22 Mod_longest, e_ar a n cI 16 mr, e_ar a n cI 17 u20.2.2]) E hw in_Mod t_Mod t_Mod_ok n_Mod rfl 0 11 rfl (by decide) tw446 rfl rfl rfl rfl (Nat.le_of_ble_eq_true rfl) rfl d_Mod_pack_185 (fun H locs hw => ?_)
      refine lv_iload_n hx hb d_Mod_pack_188 rfl (lv_at hl 1 rfl) ?_
      refine lv_iload_n hx hb d_Mod_pack_189 rfl (lv_at hl 2 rfl) ?_
      refine lv_iadd hx hb d_Mod_pack_190 ?_
      refine lv_topi (fun z24 ez24 => ?_)
      have h := h z24 ez24
      refine lv_istore_n (lv' := [(1, .int z24), (0, .ref (a 7)), (3, .int y3), (4, .int y4)]) hx hb d_Mod_pack_191 rfl hl (by decide) rfl (fun ls hl => ?_)
      refine lv_goto (tgt := 218) hx hb d_Mod_pack_192 (by decide) ?_
      refine lv_goto (tgt := 17) hx hb d_Mod_pack_218 (by decide) ?_
      exact hk17 u20.1 u20.2.1 Mod_single z22 Mod_longest u20.2.2 z24 _ _ ls hw (lv_sub hl [1, 0] rfl) h
    · have h := h.2 c23
      refine lv_iload_n hx hb d_Mod_pack_177 rfl (lv_at hl 2 rfl) ?_
      refine lv_goto (tgt := 185) hx hb d_Mod_pack_178 (by decide) ?_
      refine kput (v := .int y3) (ty := .int) (T := F_Mod) (ws' := [e_Mod a Mod_thrown Mod_width Mod_height Mod_many u20.1 u20.2.1 Mod_single z22 y3, e_ar a n cI 16 mr, e_ar a n cI 17 u20.2.2]) E hw in_Mod t_Mod t_Mod_ok n_Mod rfl 0 11 rfl (by decide) tw446 rfl rfl rfl rfl (Nat.le_of_ble_eq_true rfl) rfl d_Mod_pack_185 (fun H locs hw => ?_)
      refine lv_iload_n hx hb d_Mod_pack_188 rfl (lv_at hl 1 rfl) ?_
      refine lv_iload_n hx hb d_Mod_pack_189 rfl (lv_at hl 2 rfl) ?_
      refine lv_iadd hx hb d_Mod_pack_190 ?_
      refine lv_topi (fun z25 ez25 => ?_)
      have h := h z25 ez25
      refine lv_istore_n (lv' := [(1, .int z25), (0, .ref (a 7)), (3, .int y3), (4, .int y4)]) hx hb d_Mod_pack_191 rfl hl (by decide) rfl (fun ls hl => ?_)
      refine lv_goto (tgt := 218) hx hb d_Mod_pack_192 (by decide) ?_
      refine lv_goto (tgt := 17) hx hb d_Mod_pack_218 (by decide) ?_
      exact hk17 u20.1 u20.2.1 Mod_single z22 y3 u20.2.2 z25 _ _ ls hw (lv_sub hl [1, 0] rfl) h
set_option maxHeartbeats 2000000 in
set_option maxRecDepth 20000 in
theorem s_Mod_pack_121 {l : Launch} {dC : Nat → ClassId} {dI : Nat → Nat → Nat} {cI : ClassId} {tb a n : Nat → Nat} {p : Program} {e : Env} {s : State} {m : MethodId} {args : Array Value} {below : List Frame} {meth : Method} {c : Code} {A : Nat → Prop} (E : CallFix p m c prog_9_method_23_code 7 s args TBL "PicturePackerModel") (hr : meth.sig.returnType = none) (hlk : meth.locks = false) {Mod_thrown : Int32} {Mod_width : Int32} {Mod_height : Int32} {Mod_many : Int32} {mr : Nat → Int32} {post : Int32 × Int32 × Int32 × Int32 × Int32 × (Nat → Int32) → Prop} {k17 : Int32 → Int32 → Int32 → Int32 → Int32 → (Nat → Int32) → Int32 → Prop} (hk17 : ∀ (Mod_size : Int32) (Mod_bit : Int32) (Mod_single : Int32) (Mod_runs : Int32) (Mod_longest : Int32) (mf : Nat → Int32) (y1 : Int32) (H : Heap) (locs : List Loc) (ls : Array Slot), Wl classes dC dI cI tb A s H locs [e_Mod a Mod_thrown Mod_width Mod_height Mod_many Mod_size Mod_bit Mod_single Mod_runs Mod_longest, e_ar a n cI 16 mr, e_ar a n cI 17 mf] → lv_has ls 7 [(0, .ref (a 7)), (1, .int y1)] → k17 Mod_size Mod_bit Mod_single Mod_runs Mod_longest mf y1 → W p l e ({ frames := 5, cells := 0, slots := 0, locals := 110 }) s m args below meth c H locs 0 0 (MQ below (va_Qv post (fun u => End0 classes dC dI cI A [e_Mod a Mod_thrown Mod_width Mod_height Mod_many u.1 u.2.1 u.2.2.1 u.2.2.2.1 u.2.2.2.2.1, e_ar a n cI 16 mr, e_ar a n cI 17 u.2.2.2.2.2]) A) args s 0 0 A) (F0 m 17 ls [])) {k58 : Int32 → Int32 → Int32 → Int32 → Int32 → (Nat → Int32) → Int32 → Int32 → Int32 → Int32 → Int32 → Prop} (hk58 : ∀ (Mod_size : Int32) (Mod_bit : Int32) (Mod_single : Int32) (Mod_runs : Int32) (Mod_longest : Int32) (mf : Nat → Int32) (y1 : Int32) (y2 : Int32) (y3 : Int32) (y4 : Int32) (y5 : Int32) (H : Heap) (locs : List Loc) (ls : Array Slot), Wl classes dC dI cI tb A s H locs [e_Mod a Mod_thrown Mod_width Mod_height Mod_many Mod_size Mod_bit Mod_single Mod_runs Mod_longest, e_ar a n cI 16 mr, e_ar a n cI 17 mf] → lv_has ls 7 [(0, .ref (a 7)), (1, .int y1), (2, .int y2), (3, .int y3), (4, .int y4), (5, .int y5)] → k58 Mod_size Mod_bit Mod_single Mod_runs Mod_longest mf y1 y2 y3 y4 y5 → W p l e ({ frames := 5, cells := 0, slots := 0, locals := 110 }) s m args below meth c H locs 0 0 (MQ below (va_Qv post (fun u => End0 classes dC dI cI A [e_Mod a Mod_thrown Mod_width Mod_height Mod_many u.1 u.2.1 u.2.2.1 u.2.2.2.1 u.2.2.2.2.1, e_ar a n cI 16 mr, e_ar a n cI 17 u.2.2.2.2.2]) A) args s 0 0 A) (F0 m 58 ls [])) : ∀ (Mod_size : Int32) (Mod_bit : Int32) (Mod_single : Int32) (Mod_runs : Int32) (Mod_longest : Int32) (mf : Nat → Int32) (t0 : Int32) (y1 : Int32) (y2 : Int32) (y3 : Int32) (y5 : Int32) (y6 : Int32) (H : Heap) (locs : List Loc) (ls : Array Slot), Wl classes dC dI cI tb A s H locs [e_Mod a Mod_thrown Mod_width Mod_height Mod_many Mod_size Mod_bit Mod_single Mod_runs Mod_longest, e_ar a n cI 16 mr, e_ar a n cI 17 mf] → lv_has ls 7 [(0, .ref (a 7)), (1, .int y1), (2, .int y2), (3, .int y3), (5, .int y5), (6, .int y6)] → wp_Mod_pack_121 n Mod_many mr post k17 k58 Mod_size Mod_bit Mod_single Mod_runs Mod_longest mf t0 y1 y2 y3 y5 y6 → W p l e ({ frames := 5, cells := 0, slots := 0, locals := 110 }) s m args below meth c H locs 0 0 (MQ below (va_Qv post (fun u => End0 classes dC dI cI A [e_Mod a Mod_thrown Mod_width Mod_height Mod_many u.1 u.2.1 u.2.2.1 u.2.2.2.1 u.2.2.2.2.1, e_ar a n cI 16 mr, e_ar a n cI 17 u.2.2.2.2.2]) A) args s 0 0 A) (F0 m 121 ls [.int t0]) := by
  obtain ⟨hx, hb, hml, hown, hts⟩ := id E
  intro Mod_size Mod_bit Mod_single Mod_runs Mod_longest mf t0 y1 y2 y3 y5 y6 H locs ls hw hl h
  unfold wp_Mod_pack_121 at h
  refine lv_istore (lv' := [(4, .int t0), (0, .ref (a 7)), (1, .int y1), (2, .int y2), (3, .int y3), (5, .int y5), (6, .int y6)]) hx hb d_Mod_pack_121 hl (by decide) rfl (fun ls hl => ?_)
  refine lv_iload hx hb d_Mod_pack_123 (lv_at hl 6 rfl) ?_
  refine lv_iload_n hx hb d_Mod_pack_125 rfl (lv_at hl 4 rfl) ?_
  refine lv_icmp_le (tgt := 134) hx hb d_Mod_pack_126 (by decide) (fun c35 => ?_) (fun c35 => ?_)
  · have h := h.1 c35
    refine lv_iload_n hx hb d_Mod_pack_134 rfl (lv_at hl 4 rfl) ?_
    refine lv_istore_n (lv' := [(3, .int y3), (4, .int t0), (0, .ref (a 7)), (1, .int y1), (2, .int y2), (5, .int y5), (6, .int y6)]) hx hb d_Mod_pack_135 rfl hl (by decide) rfl (fun ls hl => ?_)
    obtain ⟨z36, ez36⟩ : ∃ z : Int32, z = y5 + 1 := ⟨_, rfl⟩
    have h := h z36 ez36
    refine lv_iinc (v := z36) (lv' := [(5, .int z36), (3, .int y3), (4, .int t0), (0, .ref (a 7)), (1, .int y1), (2, .int y2), (6, .int y6)]) hx hb d_Mod_pack_136 hl (k := 5) rfl (by rw [ez36]; exact congrArg (y5 + ·) (by decide)) (by decide) rfl (fun ls hl => ?_)
    refine lv_goto (tgt := 58) hx hb d_Mod_pack_139 (by decide) ?_
    exact hk58 Mod_size Mod_bit Mod_single Mod_runs Mod_longest mf y1 y2 y3 t0 z36 _ _ ls hw (lv_sub hl [3, 4, 5, 1, 2, 0] rfl) h
  · have h := h.2 c35
    refine lv_iload hx hb d_Mod_pack_129 (lv_at hl 6 rfl) ?_
    refine lv_goto (tgt := 135) hx hb d_Mod_pack_131 (by decide) ?_
    refine lv_istore_n (lv' := [(3, .int y6), (4, .int t0), (0, .ref (a 7)), (1, .int y1), (2, .int y2), (5, .int y5), (6, .int y6)]) hx hb d_Mod_pack_135 rfl hl (by decide) rfl (fun ls hl => ?_)
    obtain ⟨z37, ez37⟩ : ∃ z : Int32, z = y5 + 1 := ⟨_, rfl⟩
    have h := h z37 ez37
    refine lv_iinc (v := z37) (lv' := [(5, .int z37), (3, .int y6), (4, .int t0), (0, .ref (a 7)), (1, .int y1), (2, .int y2), (6, .int y6)]) hx hb d_Mod_pack_136 hl (k := 5) rfl (by rw [ez37]; exact congrArg (y5 + ·) (by decide)) (by decide) rfl (fun ls hl => ?_)
    refine lv_goto (tgt := 58) hx hb d_Mod_pack_139 (by decide) ?_
    exact hk58 Mod_size Mod_bit Mod_single Mod_runs Mod_longest mf y1 y2 y6 t0 z37 _ _ ls hw (lv_sub hl [3, 4, 5, 1, 2, 0] rfl) h
set_option maxHeartbeats 2000000 in
set_option maxRecDepth 20000 in
theorem s_Mod_pack_58 {l : Launch} {dC : Nat → ClassId} {dI : Nat → Nat → Nat} {cI : ClassId} {tb a n : Nat → Nat} {p : Program} {e : Env} {s : State} {m : MethodId} {args : Array Value} {below : List Frame} {meth : Method} {c : Code} {A : Nat → Prop} (E : CallFix p m c prog_9_method_23_code 7 s args TBL "PicturePackerModel") (hr : meth.sig.returnType = none) (hlk : meth.locks = false) {Mod_thrown : Int32} {Mod_width : Int32} {Mod_height : Int32} {Mod_many : Int32} {mr : Nat → Int32} {post : Int32 × Int32 × Int32 × Int32 × Int32 × (Nat → Int32) → Prop} {k17 : Int32 → Int32 → Int32 → Int32 → Int32 → (Nat → Int32) → Int32 → Prop} (hk17 : ∀ (Mod_size : Int32) (Mod_bit : Int32) (Mod_single : Int32) (Mod_runs : Int32) (Mod_longest : Int32) (mf : Nat → Int32) (y1 : Int32) (H : Heap) (locs : List Loc) (ls : Array Slot), Wl classes dC dI cI tb A s H locs [e_Mod a Mod_thrown Mod_width Mod_height Mod_many Mod_size Mod_bit Mod_single Mod_runs Mod_longest, e_ar a n cI 16 mr, e_ar a n cI 17 mf] → lv_has ls 7 [(0, .ref (a 7)), (1, .int y1)] → k17 Mod_size Mod_bit Mod_single Mod_runs Mod_longest mf y1 → W p l e ({ frames := 5, cells := 0, slots := 0, locals := 110 }) s m args below meth c H locs 0 0 (MQ below (va_Qv post (fun u => End0 classes dC dI cI A [e_Mod a Mod_thrown Mod_width Mod_height Mod_many u.1 u.2.1 u.2.2.1 u.2.2.2.1 u.2.2.2.2.1, e_ar a n cI 16 mr, e_ar a n cI 17 u.2.2.2.2.2]) A) args s 0 0 A) (F0 m 17 ls [])) : ∀ (N : Nat) (Mod_size : Int32) (Mod_bit : Int32) (Mod_single : Int32) (Mod_runs : Int32) (Mod_longest : Int32) (mf : Nat → Int32) (y1 : Int32) (y2 : Int32) (y3 : Int32) (y4 : Int32) (y5 : Int32) (H : Heap) (locs : List Loc) (ls : Array Slot), Wl classes dC dI cI tb A s H locs [e_Mod a Mod_thrown Mod_width Mod_height Mod_many Mod_size Mod_bit Mod_single Mod_runs Mod_longest, e_ar a n cI 16 mr, e_ar a n cI 17 mf] → lv_has ls 7 [(0, .ref (a 7)), (1, .int y1), (2, .int y2), (3, .int y3), (4, .int y4), (5, .int y5)] → wp_Mod_pack_58 n Mod_many mr post k17 N Mod_size Mod_bit Mod_single Mod_runs Mod_longest mf y1 y2 y3 y4 y5 → W p l e ({ frames := 5, cells := 0, slots := 0, locals := 110 }) s m args below meth c H locs 0 0 (MQ below (va_Qv post (fun u => End0 classes dC dI cI A [e_Mod a Mod_thrown Mod_width Mod_height Mod_many u.1 u.2.1 u.2.2.1 u.2.2.2.1 u.2.2.2.2.1, e_ar a n cI 16 mr, e_ar a n cI 17 u.2.2.2.2.2]) A) args s 0 0 A) (F0 m 58 ls []) := by
  obtain ⟨hx, hb, hml, hown, hts⟩ := id E
  intro N
  induction N with
  | zero =>
    intro _ _ _ _ _ _ _ _ _ _ _ H locs ls hw hl h
    exact absurd h id
  | succ N ih =>
    intro Mod_size Mod_bit Mod_single Mod_runs Mod_longest mf y1 y2 y3 y4 y5 H locs ls hw hl h
    unfold wp_Mod_pack_58 at h
    refine lv_iload hx hb d_Mod_pack_58 (lv_at hl 5 rfl) ?_
    refine lv_iload_n hx hb d_Mod_pack_60 rfl (lv_at hl 1 rfl) ?_
    refine lv_icmp_gt (tgt := 142) hx hb d_Mod_pack_61 (by decide) (fun c11 => ?_) (fun c11 => ?_)
    · have h := h.1 c11
      exact s_Mod_pack_142 (a := a) (n := n) (tb := tb) E hr hlk hk17 Mod_size Mod_bit Mod_single Mod_runs Mod_longest mf y1 y3 y4 _ _ ls hw (lv_sub hl [0, 1, 3, 4] rfl) h
    · have h := h.2 c11
      refine lv_iload hx hb d_Mod_pack_64 (lv_at hl 5 rfl) ?_
      refine lv_ldc (v := 32768) hx hb hown (hts _ tw537) d_Mod_pack_66 ?_
      refine lv_icmp_gt (tgt := 142) hx hb d_Mod_pack_68 (by decide) (fun c26 => ?_) (fun c26 => ?_)
      · have h := h.1 c26
        exact s_Mod_pack_142 (a := a) (n := n) (tb := tb) E hr hlk hk17 Mod_size Mod_bit Mod_single Mod_runs Mod_longest mf y1 y3 y4 _ _ ls hw (lv_sub hl [0, 1, 3, 4] rfl) h
      · have h := h.2 c26
        refine lv_iload_n hx hb d_Mod_pack_71 rfl (lv_at hl 3 rfl) ?_
        refine lv_iload_n hx hb d_Mod_pack_72 rfl (lv_at hl 2 rfl) ?_
        refine lv_icmp_ge (tgt := 142) hx hb d_Mod_pack_73 (by decide) (fun c27 => ?_) (fun c27 => ?_)
        · have h := h.1 c27
          exact s_Mod_pack_142 (a := a) (n := n) (tb := tb) E hr hlk hk17 Mod_size Mod_bit Mod_single Mod_runs Mod_longest mf y1 y3 y4 _ _ ls hw (lv_sub hl [0, 1, 3, 4] rfl) h
        · have h := h.2 c27
          refine lv_aload_n hx hb d_Mod_pack_76 rfl (lv_at hl 0 rfl) ?_
          refine kget (v := .ref (a 16)) (T := F_Mod) E hw in_Mod rfl 0 4 rfl (by decide) tw439 rfl d_Mod_pack_77 ?_
          refine lv_iload_n hx hb d_Mod_pack_80 rfl (lv_at hl 1 rfl) ?_
          refine lv_iload_n hx hb d_Mod_pack_81 rfl (lv_at hl 3 rfl) ?_
          refine lv_iadd hx hb d_Mod_pack_82 ?_
          obtain ⟨b28, h⟩ := h
          refine kald E hw 1 rfl b28 d_Mod_pack_83 ?_
          refine lv_aload_n hx hb d_Mod_pack_84 rfl (lv_at hl 0 rfl) ?_
          refine kget (v := .ref (a 16)) (T := F_Mod) E hw in_Mod rfl 0 4 rfl (by decide) tw439 rfl d_Mod_pack_85 ?_
          refine lv_iload_n hx hb d_Mod_pack_88 rfl (lv_at hl 1 rfl) ?_
          refine lv_iload_n hx hb d_Mod_pack_89 rfl (lv_at hl 3 rfl) ?_
          refine lv_iadd hx hb d_Mod_pack_90 ?_
          refine lv_iload hx hb d_Mod_pack_91 (lv_at hl 5 rfl) ?_
          refine lv_isub hx hb d_Mod_pack_93 ?_
          obtain ⟨b29, h⟩ := h
          refine kald E hw 1 rfl b29 d_Mod_pack_94 ?_
          refine lv_icmp_ne (tgt := 136) hx hb d_Mod_pack_95 (by decide) (fun c30 => ?_) (fun c30 => ?_)
          · have h := h.1 c30
            obtain ⟨z31, ez31⟩ : ∃ z : Int32, z = y5 + 1 := ⟨_, rfl⟩
            have h := h z31 ez31
            refine lv_iinc (v := z31) (lv' := [(5, .int z31), (0, .ref (a 7)), (1, .int y1), (2, .int y2), (3, .int y3), (4, .int y4)]) hx hb d_Mod_pack_136 hl (k := 5) rfl (by rw [ez31]; exact congrArg (y5 + ·) (by decide)) (by decide) rfl (fun ls hl => ?_)
            refine lv_goto (tgt := 58) hx hb d_Mod_pack_139 (by decide) ?_
            exact ih Mod_size Mod_bit Mod_single Mod_runs Mod_longest mf y1 y2 y3 y4 z31 _ _ ls hw (lv_sub hl [1, 2, 3, 4, 5, 0] rfl) h
          · have h := h.2 c30
            refine lv_aload_n hx hb d_Mod_pack_98 rfl (lv_at hl 0 rfl) ?_
            refine lv_iload_n hx hb d_Mod_pack_99 rfl (lv_at hl 1 rfl) ?_
            refine lv_iload hx hb d_Mod_pack_100 (lv_at hl 5 rfl) ?_
            refine lv_iload_n hx hb d_Mod_pack_102 rfl (lv_at hl 2 rfl) ?_
            refine kVi (y := y_Mod_run) (ws' := fun _ => [e_Mod a Mod_thrown Mod_width Mod_height Mod_many Mod_size Mod_bit Mod_single Mod_runs Mod_longest, e_ar a n cI 16 mr, e_ar a n cI 17 mf]) (wr := [e_ar a n cI 17 mf]) (As := [.int y1, .int y5, .int y2]) (rest := []) E hw (c_Mod_run (l := l) (dC := dC) (dI := dI) (cI := cI) (tb := tb) (a := a) (n := n) (Mod_thrown := Mod_thrown) (Mod_width := Mod_width) (Mod_height := Mod_height) (Mod_many := Mod_many) (Mod_size := Mod_size) (Mod_bit := Mod_bit) (Mod_single := Mod_single) (Mod_runs := Mod_runs) (Mod_longest := Mod_longest) (mr := mr) (x1 := y1) (x2 := y5) (x3 := y2) h) tw538 tw540 tw27 tw44 tw541 3 (by decide) ⟨Nat.le_of_ble_eq_true rfl, Nat.le_of_ble_eq_true rfl⟩ ⟨Nat.le_of_ble_eq_true rfl, Nat.le_of_ble_eq_true rfl⟩ ⟨rfl, rfl⟩ rfl rfl 0 rfl [0, 1] [2] [1, 2, 0] rfl rfl rfl rfl (by decide) rfl (fun _ => rfl) hl.1 rfl rfl (Nat.le_of_ble_eq_true rfl) d_Mod_pack_103 (fun r33 u32 H locs h hw => ?_)
            refine lv_istore (lv' := [(6, .int r33), (0, .ref (a 7)), (1, .int y1), (2, .int y2), (3, .int y3), (4, .int y4), (5, .int y5)]) hx hb d_Mod_pack_106 hl (by decide) rfl (fun ls hl => ?_)
            refine lv_iload hx hb d_Mod_pack_108 (lv_at hl 0 rfl) ?_
            refine lv_iload_n hx hb d_Mod_pack_110 rfl (lv_at hl 4 rfl) ?_
            refine lv_icmp_le (tgt := 119) hx hb d_Mod_pack_111 (by decide) (fun c34 => ?_) (fun c34 => ?_)
            · have h := h.1 c34
              refine lv_iload hx hb d_Mod_pack_119 (lv_at hl 5 rfl) ?_
              exact s_Mod_pack_121 (a := a) (n := n) (tb := tb) E hr hlk hk17 ih Mod_size Mod_bit Mod_single Mod_runs Mod_longest mf y4 y1 y2 y3 y5 r33 _ _ ls hw (lv_sub hl [1, 2, 3, 4, 6, 0] rfl) h
            · have h := h.2 c34
              refine lv_iload hx hb d_Mod_pack_114 (lv_at hl 6 rfl) ?_
              refine lv_goto (tgt := 121) hx hb d_Mod_pack_116 (by decide) ?_
              exact s_Mod_pack_121 (a := a) (n := n) (tb := tb) E hr hlk hk17 ih Mod_size Mod_bit Mod_single Mod_runs Mod_longest mf y5 y1 y2 y3 y5 r33 _ _ ls hw (lv_sub hl [1, 2, 3, 4, 6, 0] rfl) h
set_option maxHeartbeats 2000000 in
set_option maxRecDepth 20000 in
theorem s_Mod_pack_17 {l : Launch} {dC : Nat → ClassId} {dI : Nat → Nat → Nat} {cI : ClassId} {tb a n : Nat → Nat} {p : Program} {e : Env} {s : State} {m : MethodId} {args : Array Value} {below : List Frame} {meth : Method} {c : Code} {A : Nat → Prop} (E : CallFix p m c prog_9_method_23_code 7 s args TBL "PicturePackerModel") (hr : meth.sig.returnType = none) (hlk : meth.locks = false) {Mod_thrown : Int32} {Mod_width : Int32} {Mod_height : Int32} {Mod_many : Int32} {mr : Nat → Int32} {post : Int32 × Int32 × Int32 × Int32 × Int32 × (Nat → Int32) → Prop} : ∀ (N : Nat) (Mod_size : Int32) (Mod_bit : Int32) (Mod_single : Int32) (Mod_runs : Int32) (Mod_longest : Int32) (mf : Nat → Int32) (y1 : Int32) (H : Heap) (locs : List Loc) (ls : Array Slot), Wl classes dC dI cI tb A s H locs [e_Mod a Mod_thrown Mod_width Mod_height Mod_many Mod_size Mod_bit Mod_single Mod_runs Mod_longest, e_ar a n cI 16 mr, e_ar a n cI 17 mf] → lv_has ls 7 [(0, .ref (a 7)), (1, .int y1)] → wp_Mod_pack_17 n Mod_many mr post N Mod_size Mod_bit Mod_single Mod_runs Mod_longest mf y1 → W p l e ({ frames := 5, cells := 0, slots := 0, locals := 110 }) s m args below meth c H locs 0 0 (MQ below (va_Qv post (fun u => End0 classes dC dI cI A [e_Mod a Mod_thrown Mod_width Mod_height Mod_many u.1 u.2.1 u.2.2.1 u.2.2.2.1 u.2.2.2.2.1, e_ar a n cI 16 mr, e_ar a n cI 17 u.2.2.2.2.2]) A) args s 0 0 A) (F0 m 17 ls []) := by
  obtain ⟨hx, hb, hml, hown, hts⟩ := id E
  intro N
  induction N with
  | zero =>
    intro _ _ _ _ _ _ _ H locs ls hw hl h
    exact absurd h id
  | succ N ih =>
    intro Mod_size Mod_bit Mod_single Mod_runs Mod_longest mf y1 H locs ls hw hl h
    unfold wp_Mod_pack_17 at h
    refine lv_iload_n hx hb d_Mod_pack_17 rfl (lv_at hl 1 rfl) ?_
    refine lv_aload_n hx hb d_Mod_pack_18 rfl (lv_at hl 0 rfl) ?_
    refine kget (v := .int Mod_many) (T := F_Mod) E hw in_Mod rfl 0 5 rfl (by decide) tw440 rfl d_Mod_pack_19 ?_
    refine lv_icmp_ge (tgt := 221) hx hb d_Mod_pack_22 (by decide) (fun c7 => ?_) (fun c7 => ?_)
    · have h := h.1 c7
      refine lv_aload_n hx hb d_Mod_pack_221 rfl (lv_at hl 0 rfl) ?_
      refine lv_sipush (v := 256) hx hb d_Mod_pack_222 (by decide) ?_
      refine kVv (y := y_Mod_sign) (ws' := fun u8 => [e_Mod a Mod_thrown Mod_width Mod_height Mod_many u8.1 u8.2.1 Mod_single Mod_runs Mod_longest, e_ar a n cI 16 mr, e_ar a n cI 17 u8.2.2]) (wr := [e_ar a n cI 16 mr]) (As := [.int 256]) (rest := []) E hw (c_Mod_sign (l := l) (dC := dC) (dI := dI) (cI := cI) (tb := tb) (a := a) (n := n) (Mod_thrown := Mod_thrown) (Mod_width := Mod_width) (Mod_height := Mod_height) (Mod_many := Mod_many) (Mod_size := Mod_size) (Mod_bit := Mod_bit) (Mod_single := Mod_single) (Mod_runs := Mod_runs) (Mod_longest := Mod_longest) (mf := mf) (x1 := 256) h) tw546 tw548 tw29 tw44 tw549 1 (by decide) ⟨Nat.le_of_ble_eq_true rfl, Nat.le_of_ble_eq_true rfl⟩ ⟨Nat.le_of_ble_eq_true rfl, Nat.le_of_ble_eq_true rfl⟩ ⟨rfl, rfl⟩ rfl rfl 0 rfl [0, 2] [1] [1, 0, 2] rfl rfl rfl rfl (by decide) rfl (fun _ => rfl) hl.1 rfl rfl (Nat.le_of_ble_eq_true rfl) d_Mod_pack_225 (fun u8 H locs h hw => ?_)
      refine lv_aload_n hx hb d_Mod_pack_228 rfl (lv_at hl 0 rfl) ?_
      refine lv_iconst (v := 0) hx hb d_Mod_pack_229 (by decide) ?_
      refine kput (v := .int 0) (ty := .int) (T := F_Mod) (ws' := [e_Mod a Mod_thrown Mod_width Mod_height Mod_many u8.1 0 Mod_single Mod_runs Mod_longest, e_ar a n cI 16 mr, e_ar a n cI 17 u8.2.2]) E hw in_Mod t_Mod t_Mod_ok n_Mod rfl 0 8 rfl (by decide) tw443 rfl rfl rfl rfl (Nat.le_of_ble_eq_true rfl) rfl d_Mod_pack_230 (fun H locs hw => ?_)
      exact retV (out := fun u => [e_Mod a Mod_thrown Mod_width Mod_height Mod_many u.1 u.2.1 u.2.2.1 u.2.2.2.1 u.2.2.2.2.1, e_ar a n cI 16 mr, e_ar a n cI 17 u.2.2.2.2.2]) (u := (u8.1, 0, Mod_single, Mod_runs, Mod_longest, u8.2.2)) E hr hlk hw h d_Mod_pack_233
    · have h := h.2 c7
      refine lv_aload_n hx hb d_Mod_pack_25 rfl (lv_at hl 0 rfl) ?_
      refine kget (v := .int Mod_many) (T := F_Mod) E hw in_Mod rfl 0 5 rfl (by decide) tw440 rfl d_Mod_pack_26 ?_
      refine lv_iload_n hx hb d_Mod_pack_29 rfl (lv_at hl 1 rfl) ?_
      refine lv_isub hx hb d_Mod_pack_30 ?_
      refine lv_sipush (v := 258) hx hb d_Mod_pack_31 (by decide) ?_
      refine lv_icmp_ge (tgt := 46) hx hb d_Mod_pack_34 (by decide) (fun c10 => ?_) (fun c10 => ?_)
      · have h := h.1 c10
        refine lv_sipush (v := 258) hx hb d_Mod_pack_46 (by decide) ?_
        refine lv_istore_n (lv' := [(2, .int 258), (0, .ref (a 7)), (1, .int y1)]) hx hb d_Mod_pack_49 rfl hl (by decide) rfl (fun ls hl => ?_)
        refine lv_iconst (v := 2) hx hb d_Mod_pack_50 (by decide) ?_
        refine lv_istore_n (lv' := [(3, .int 2), (2, .int 258), (0, .ref (a 7)), (1, .int y1)]) hx hb d_Mod_pack_51 rfl hl (by decide) rfl (fun ls hl => ?_)
        refine lv_iconst (v := 0) hx hb d_Mod_pack_52 (by decide) ?_
        refine lv_istore (lv' := [(4, .int 0), (3, .int 2), (2, .int 258), (0, .ref (a 7)), (1, .int y1)]) hx hb d_Mod_pack_53 hl (by decide) rfl (fun ls hl => ?_)
        refine lv_iconst (v := 1) hx hb d_Mod_pack_55 (by decide) ?_
        refine lv_istore (lv' := [(5, .int 1), (4, .int 0), (3, .int 2), (2, .int 258), (0, .ref (a 7)), (1, .int y1)]) hx hb d_Mod_pack_56 hl (by decide) rfl (fun ls hl => ?_)
        obtain ⟨N38, h⟩ := h
        exact s_Mod_pack_58 (a := a) (n := n) (tb := tb) E hr hlk ih N38 Mod_size Mod_bit Mod_single Mod_runs Mod_longest mf y1 258 2 0 1 _ _ ls hw (lv_sub hl [4, 5, 3, 2, 1, 0] rfl) h
      · have h := h.2 c10
        refine lv_aload_n hx hb d_Mod_pack_37 rfl (lv_at hl 0 rfl) ?_
        refine kget (v := .int Mod_many) (T := F_Mod) E hw in_Mod rfl 0 5 rfl (by decide) tw440 rfl d_Mod_pack_38 ?_
        refine lv_iload_n hx hb d_Mod_pack_41 rfl (lv_at hl 1 rfl) ?_
        refine lv_isub hx hb d_Mod_pack_42 ?_
        refine lv_goto (tgt := 49) hx hb d_Mod_pack_43 (by decide) ?_
        refine lv_topi (fun z39 ez39 => ?_)
        have h := h z39 ez39
        refine lv_istore_n (lv' := [(2, .int z39), (0, .ref (a 7)), (1, .int y1)]) hx hb d_Mod_pack_49 rfl hl (by decide) rfl (fun ls hl => ?_)
        refine lv_iconst (v := 2) hx hb d_Mod_pack_50 (by decide) ?_
        refine lv_istore_n (lv' := [(3, .int 2), (2, .int z39), (0, .ref (a 7)), (1, .int y1)]) hx hb d_Mod_pack_51 rfl hl (by decide) rfl (fun ls hl => ?_)
        refine lv_iconst (v := 0) hx hb d_Mod_pack_52 (by decide) ?_
        refine lv_istore (lv' := [(4, .int 0), (3, .int 2), (2, .int z39), (0, .ref (a 7)), (1, .int y1)]) hx hb d_Mod_pack_53 hl (by decide) rfl (fun ls hl => ?_)
        refine lv_iconst (v := 1) hx hb d_Mod_pack_55 (by decide) ?_
        refine lv_istore (lv' := [(5, .int 1), (4, .int 0), (3, .int 2), (2, .int z39), (0, .ref (a 7)), (1, .int y1)]) hx hb d_Mod_pack_56 hl (by decide) rfl (fun ls hl => ?_)
        obtain ⟨N40, h⟩ := h
        exact s_Mod_pack_58 (a := a) (n := n) (tb := tb) E hr hlk ih N40 Mod_size Mod_bit Mod_single Mod_runs Mod_longest mf y1 z39 2 0 1 _ _ ls hw (lv_sub hl [4, 5, 3, 2, 1, 0] rfl) h
set_option maxHeartbeats 2000000 in
set_option maxRecDepth 20000 in
theorem c_Mod_pack {l : Launch} {dC : Nat → ClassId} {dI : Nat → Nat → Nat} {cI : ClassId} {tb a n : Nat → Nat} {Mod_thrown : Int32} {Mod_width : Int32} {Mod_height : Int32} {Mod_many : Int32} {Mod_size : Int32} {Mod_bit : Int32} {Mod_single : Int32} {Mod_runs : Int32} {Mod_longest : Int32} {mr : Nat → Int32} {mf : Nat → Int32} {post : Int32 × Int32 × Int32 × Int32 × Int32 × (Nat → Int32) → Prop} (h : wp_Mod_pack n Mod_many Mod_size Mod_bit Mod_single Mod_runs Mod_longest mr mf post) : CtV classes dC dI cI tb l y_Mod_pack prog_9_method_23_code 7 ({ frames := 5, cells := 0, slots := 0, locals := 110 }) [.ref (a 7)] [e_Mod a Mod_thrown Mod_width Mod_height Mod_many Mod_size Mod_bit Mod_single Mod_runs Mod_longest, e_ar a n cI 16 mr, e_ar a n cI 17 mf] (Int32 × Int32 × Int32 × Int32 × Int32 × (Nat → Int32)) (fun u => [e_Mod a Mod_thrown Mod_width Mod_height Mod_many u.1 u.2.1 u.2.2.1 u.2.2.2.1 u.2.2.2.2.1, e_ar a n cI 16 mr, e_ar a n cI 17 u.2.2.2.2.2]) post := by
  refine startV (by decide) (Nat.le_of_ble_eq_true rfl) ?_
  intro p e s m below meth c ls E hr hlk hnm hl hw
  have hl : lv_has ls 7 [(0, .ref (a 7))] := hl
  generalize va_A [e_Mod a Mod_thrown Mod_width Mod_height Mod_many Mod_size Mod_bit Mod_single Mod_runs Mod_longest, e_ar a n cI 16 mr, e_ar a n cI 17 mf] s.heap.size = A at hw ⊢
  obtain ⟨hx, hb, hml, hown, hts⟩ := id E
  unfold wp_Mod_pack at h
  refine lv_aload_n hx hb d_Mod_pack_0 rfl (lv_at hl 0 rfl) ?_
  refine lv_iconst (v := 1) hx hb d_Mod_pack_1 (by decide) ?_
  refine kVv (y := y_Mod_next) (ws' := fun u1 => [e_Mod a Mod_thrown Mod_width Mod_height Mod_many u1.1 u1.2.1 Mod_single Mod_runs Mod_longest, e_ar a n cI 16 mr, e_ar a n cI 17 u1.2.2]) (wr := [e_ar a n cI 16 mr]) (As := [.int 1]) (rest := []) E hw (c_Mod_next (l := l) (dC := dC) (dI := dI) (cI := cI) (tb := tb) (a := a) (n := n) (Mod_thrown := Mod_thrown) (Mod_width := Mod_width) (Mod_height := Mod_height) (Mod_many := Mod_many) (Mod_size := Mod_size) (Mod_bit := Mod_bit) (Mod_single := Mod_single) (Mod_runs := Mod_runs) (Mod_longest := Mod_longest) (mf := mf) (x1 := 1) h) tw533 tw535 tw26 tw44 tw536 1 (by decide) ⟨Nat.le_of_ble_eq_true rfl, Nat.le_of_ble_eq_true rfl⟩ ⟨Nat.le_of_ble_eq_true rfl, Nat.le_of_ble_eq_true rfl⟩ ⟨rfl, rfl⟩ rfl rfl 0 rfl [0, 2] [1] [1, 0, 2] rfl rfl rfl rfl (by decide) rfl (fun _ => rfl) hl.1 rfl rfl (Nat.le_of_ble_eq_true rfl) d_Mod_pack_2 (fun u1 H locs h hw => ?_)
  refine lv_aload_n hx hb d_Mod_pack_5 rfl (lv_at hl 0 rfl) ?_
  refine lv_iconst (v := 1) hx hb d_Mod_pack_6 (by decide) ?_
  refine kVv (y := y_Mod_next) (ws' := fun u3 => [e_Mod a Mod_thrown Mod_width Mod_height Mod_many u3.1 u3.2.1 Mod_single Mod_runs Mod_longest, e_ar a n cI 16 mr, e_ar a n cI 17 u3.2.2]) (wr := [e_ar a n cI 16 mr]) (As := [.int 1]) (rest := []) E hw (c_Mod_next (l := l) (dC := dC) (dI := dI) (cI := cI) (tb := tb) (a := a) (n := n) (Mod_thrown := Mod_thrown) (Mod_width := Mod_width) (Mod_height := Mod_height) (Mod_many := Mod_many) (Mod_size := u1.1) (Mod_bit := u1.2.1) (Mod_single := Mod_single) (Mod_runs := Mod_runs) (Mod_longest := Mod_longest) (mf := u1.2.2) (x1 := 1) h) tw533 tw535 tw26 tw44 tw536 1 (by decide) ⟨Nat.le_of_ble_eq_true rfl, Nat.le_of_ble_eq_true rfl⟩ ⟨Nat.le_of_ble_eq_true rfl, Nat.le_of_ble_eq_true rfl⟩ ⟨rfl, rfl⟩ rfl rfl 0 rfl [0, 2] [1] [1, 0, 2] rfl rfl rfl rfl (by decide) rfl (fun _ => rfl) hl.1 rfl rfl (Nat.le_of_ble_eq_true rfl) d_Mod_pack_7 (fun u3 H locs h hw => ?_)
  refine lv_aload_n hx hb d_Mod_pack_10 rfl (lv_at hl 0 rfl) ?_
  refine lv_iconst (v := 0) hx hb d_Mod_pack_11 (by decide) ?_
  refine kVv (y := y_Mod_next) (ws' := fun u5 => [e_Mod a Mod_thrown Mod_width Mod_height Mod_many u5.1 u5.2.1 Mod_single Mod_runs Mod_longest, e_ar a n cI 16 mr, e_ar a n cI 17 u5.2.2]) (wr := [e_ar a n cI 16 mr]) (As := [.int 0]) (rest := []) E hw (c_Mod_next (l := l) (dC := dC) (dI := dI) (cI := cI) (tb := tb) (a := a) (n := n) (Mod_thrown := Mod_thrown) (Mod_width := Mod_width) (Mod_height := Mod_height) (Mod_many := Mod_many) (Mod_size := u3.1) (Mod_bit := u3.2.1) (Mod_single := Mod_single) (Mod_runs := Mod_runs) (Mod_longest := Mod_longest) (mf := u3.2.2) (x1 := 0) h) tw533 tw535 tw26 tw44 tw536 1 (by decide) ⟨Nat.le_of_ble_eq_true rfl, Nat.le_of_ble_eq_true rfl⟩ ⟨Nat.le_of_ble_eq_true rfl, Nat.le_of_ble_eq_true rfl⟩ ⟨rfl, rfl⟩ rfl rfl 0 rfl [0, 2] [1] [1, 0, 2] rfl rfl rfl rfl (by decide) rfl (fun _ => rfl) hl.1 rfl rfl (Nat.le_of_ble_eq_true rfl) d_Mod_pack_12 (fun u5 H locs h hw => ?_)
  refine lv_iconst (v := 0) hx hb d_Mod_pack_15 (by decide) ?_
  refine lv_istore_n (lv' := [(1, .int 0), (0, .ref (a 7))]) hx hb d_Mod_pack_16 rfl hl (by decide) rfl (fun ls hl => ?_)
  obtain ⟨N41, h⟩ := h
  exact s_Mod_pack_17 (a := a) (n := n) (tb := tb) E hr hlk  N41 u5.1 u5.2.1 Mod_single Mod_runs Mod_longest u5.2.2 0 _ _ ls hw (lv_sub hl [1, 0] rfl) h
-- PicturePackerModel.sum()V
theorem d_Mod_sum_0 : decode prog_9_method_24_code 0 = .ok (.iconst 1, 1) := by decide +kernel
theorem d_Mod_sum_1 : decode prog_9_method_24_code 1 = .ok (.istore_n 1, 1) := by decide +kernel
theorem d_Mod_sum_2 : decode prog_9_method_24_code 2 = .ok (.iconst 0, 1) := by decide +kernel
theorem d_Mod_sum_3 : decode prog_9_method_24_code 3 = .ok (.istore_n 2, 1) := by decide +kernel
theorem d_Mod_sum_4 : decode prog_9_method_24_code 4 = .ok (.iconst 0, 1) := by decide +kernel
theorem d_Mod_sum_5 : decode prog_9_method_24_code 5 = .ok (.istore_n 3, 1) := by decide +kernel
theorem d_Mod_sum_6 : decode prog_9_method_24_code 6 = .ok (.iload_n 3, 1) := by decide +kernel
theorem d_Mod_sum_7 : decode prog_9_method_24_code 7 = .ok (.aload_n 0, 1) := by decide +kernel
theorem d_Mod_sum_8 : decode prog_9_method_24_code 8 = .ok (.getfield 45, 3) := by decide +kernel
theorem d_Mod_sum_11 : decode prog_9_method_24_code 11 = .ok (.if_icmp .ge 28, 3) := by decide +kernel
theorem d_Mod_sum_14 : decode prog_9_method_24_code 14 = .ok (.iload_n 1, 1) := by decide +kernel
theorem d_Mod_sum_15 : decode prog_9_method_24_code 15 = .ok (.aload_n 0, 1) := by decide +kernel
theorem d_Mod_sum_16 : decode prog_9_method_24_code 16 = .ok (.getfield 13, 3) := by decide +kernel
theorem d_Mod_sum_19 : decode prog_9_method_24_code 19 = .ok (.iload_n 3, 1) := by decide +kernel
theorem d_Mod_sum_20 : decode prog_9_method_24_code 20 = .ok (.iaload, 1) := by decide +kernel
theorem d_Mod_sum_21 : decode prog_9_method_24_code 21 = .ok (.iadd, 1) := by decide +kernel
theorem d_Mod_sum_22 : decode prog_9_method_24_code 22 = .ok (.ldc 97, 2) := by decide +kernel
theorem d_Mod_sum_24 : decode prog_9_method_24_code 24 = .ok (.irem, 1) := by decide +kernel
theorem d_Mod_sum_25 : decode prog_9_method_24_code 25 = .ok (.istore_n 1, 1) := by decide +kernel
theorem d_Mod_sum_26 : decode prog_9_method_24_code 26 = .ok (.iload_n 2, 1) := by decide +kernel
theorem d_Mod_sum_27 : decode prog_9_method_24_code 27 = .ok (.iload_n 1, 1) := by decide +kernel
theorem d_Mod_sum_28 : decode prog_9_method_24_code 28 = .ok (.iadd, 1) := by decide +kernel
theorem d_Mod_sum_29 : decode prog_9_method_24_code 29 = .ok (.ldc 97, 2) := by decide +kernel
theorem d_Mod_sum_31 : decode prog_9_method_24_code 31 = .ok (.irem, 1) := by decide +kernel
theorem d_Mod_sum_32 : decode prog_9_method_24_code 32 = .ok (.istore_n 2, 1) := by decide +kernel
theorem d_Mod_sum_33 : decode prog_9_method_24_code 33 = .ok (.iinc 3 1, 3) := by decide +kernel
theorem d_Mod_sum_36 : decode prog_9_method_24_code 36 = .ok (.goto (-30), 3) := by decide +kernel
theorem d_Mod_sum_39 : decode prog_9_method_24_code 39 = .ok (.aload_n 0, 1) := by decide +kernel
theorem d_Mod_sum_40 : decode prog_9_method_24_code 40 = .ok (.iload_n 2, 1) := by decide +kernel
theorem d_Mod_sum_41 : decode prog_9_method_24_code 41 = .ok (.bipush 8, 2) := by decide +kernel
theorem d_Mod_sum_43 : decode prog_9_method_24_code 43 = .ok (.ishr, 1) := by decide +kernel
theorem d_Mod_sum_44 : decode prog_9_method_24_code 44 = .ok (.invokevirtual 54, 3) := by decide +kernel
theorem d_Mod_sum_47 : decode prog_9_method_24_code 47 = .ok (.aload_n 0, 1) := by decide +kernel
theorem d_Mod_sum_48 : decode prog_9_method_24_code 48 = .ok (.iload_n 2, 1) := by decide +kernel
theorem d_Mod_sum_49 : decode prog_9_method_24_code 49 = .ok (.invokevirtual 54, 3) := by decide +kernel
theorem d_Mod_sum_52 : decode prog_9_method_24_code 52 = .ok (.aload_n 0, 1) := by decide +kernel
theorem d_Mod_sum_53 : decode prog_9_method_24_code 53 = .ok (.iload_n 1, 1) := by decide +kernel
theorem d_Mod_sum_54 : decode prog_9_method_24_code 54 = .ok (.bipush 8, 2) := by decide +kernel
theorem d_Mod_sum_56 : decode prog_9_method_24_code 56 = .ok (.ishr, 1) := by decide +kernel
theorem d_Mod_sum_57 : decode prog_9_method_24_code 57 = .ok (.invokevirtual 54, 3) := by decide +kernel
theorem d_Mod_sum_60 : decode prog_9_method_24_code 60 = .ok (.aload_n 0, 1) := by decide +kernel
theorem d_Mod_sum_61 : decode prog_9_method_24_code 61 = .ok (.iload_n 1, 1) := by decide +kernel
theorem d_Mod_sum_62 : decode prog_9_method_24_code 62 = .ok (.invokevirtual 54, 3) := by decide +kernel
theorem d_Mod_sum_65 : decode prog_9_method_24_code 65 = .ok (.return_, 1) := by decide +kernel
abbrev y_Mod_sum : MethodName := ⟨"PicturePackerModel", "sum", "()V"⟩
def wp_Mod_sum_6 (n : Nat → Nat) (Mod_many : Int32) (mr : Nat → Int32) (post : Int32 × (Nat → Int32) → Prop) : Nat → Int32 → (Nat → Int32) → Int32 → Int32 → Int32 → Prop
  | 0 => fun _ _ _ _ _ => False
  | N + 1 => fun Mod_size mf y1 y2 y3 => ((Mod_many : Int32) ≤ y3 → (wp_Mod_one n Mod_size mf ((y2 : Int32) >>> (8 &&& 31)) (fun u2 => wp_Mod_one n u2.1 u2.2 y2 (fun u4 => wp_Mod_one n u4.1 u4.2 ((y1 : Int32) >>> (8 &&& 31)) (fun u6 => wp_Mod_one n u6.1 u6.2 y1 (fun u8 => post (u8.1, u8.2))))))) ∧ (¬ ((Mod_many : Int32) ≤ y3) → (vp_in y3 (n 16) ∧ (∀ z11 : Int32, z11 = ((y1 + (mr (y3 : Int32).toNatClampNeg)) - (y1 + (mr (y3 : Int32).toNatClampNeg)) / 65521 * 65521) → (∀ z12 : Int32, z12 = ((y2 + z11) - (y2 + z11) / 65521 * 65521) → (∀ z13 : Int32, z13 = (y3 + 1) → (wp_Mod_sum_6 n Mod_many mr post N Mod_size mf z11 z12 z13))))))
def wp_Mod_sum (n : Nat → Nat) (Mod_many : Int32) (Mod_size : Int32) (mr : Nat → Int32) (mf : Nat → Int32) (post : Int32 × (Nat → Int32) → Prop) : Prop := ∃ N14 : Nat, wp_Mod_sum_6 n Mod_many mr post N14 Mod_size mf 1 0 0
set_option maxHeartbeats 2000000 in
set_option maxRecDepth 20000 in
theorem s_Mod_sum_6 {l : Launch} {dC : Nat → ClassId} {dI : Nat → Nat → Nat} {cI : ClassId} {tb a n : Nat → Nat} {p : Program} {e : Env} {s : State} {m : MethodId} {args : Array Value} {below : List Frame} {meth : Method} {c : Code} {A : Nat → Prop} (E : CallFix p m c prog_9_method_24_code 4 s args TBL "PicturePackerModel") (hr : meth.sig.returnType = none) (hlk : meth.locks = false) {Mod_thrown : Int32} {Mod_width : Int32} {Mod_height : Int32} {Mod_many : Int32} {Mod_bit : Int32} {Mod_single : Int32} {Mod_runs : Int32} {Mod_longest : Int32} {mr : Nat → Int32} {post : Int32 × (Nat → Int32) → Prop} : ∀ (N : Nat) (Mod_size : Int32) (mf : Nat → Int32) (y1 : Int32) (y2 : Int32) (y3 : Int32) (H : Heap) (locs : List Loc) (ls : Array Slot), Wl classes dC dI cI tb A s H locs [e_Mod a Mod_thrown Mod_width Mod_height Mod_many Mod_size Mod_bit Mod_single Mod_runs Mod_longest, e_ar a n cI 16 mr, e_ar a n cI 17 mf] → lv_has ls 4 [(0, .ref (a 7)), (1, .int y1), (2, .int y2), (3, .int y3)] → wp_Mod_sum_6 n Mod_many mr post N Mod_size mf y1 y2 y3 → W p l e ({ frames := 1, cells := 0, slots := 0, locals := 21 }) s m args below meth c H locs 0 0 (MQ below (va_Qv post (fun u => End0 classes dC dI cI A [e_Mod a Mod_thrown Mod_width Mod_height Mod_many u.1 Mod_bit Mod_single Mod_runs Mod_longest, e_ar a n cI 16 mr, e_ar a n cI 17 u.2]) A) args s 0 0 A) (F0 m 6 ls []) := by
  obtain ⟨hx, hb, hml, hown, hts⟩ := id E
  intro N
  induction N with
  | zero =>
    intro _ _ _ _ _ H locs ls hw hl h
    exact absurd h id
  | succ N ih =>
    intro Mod_size mf y1 y2 y3 H locs ls hw hl h
    unfold wp_Mod_sum_6 at h
    refine lv_iload_n hx hb d_Mod_sum_6 rfl (lv_at hl 3 rfl) ?_
    refine lv_aload_n hx hb d_Mod_sum_7 rfl (lv_at hl 0 rfl) ?_
    refine kget (v := .int Mod_many) (T := F_Mod) E hw in_Mod rfl 0 5 rfl (by decide) tw440 rfl d_Mod_sum_8 ?_
    refine lv_icmp_ge (tgt := 39) hx hb d_Mod_sum_11 (by decide) (fun c1 => ?_) (fun c1 => ?_)
    · have h := h.1 c1
      refine lv_aload_n hx hb d_Mod_sum_39 rfl (lv_at hl 0 rfl) ?_
      refine lv_iload_n hx hb d_Mod_sum_40 rfl (lv_at hl 2 rfl) ?_
      refine lv_bipush (v := 8) hx hb d_Mod_sum_41 (by decide) ?_
      refine lv_ishr hx hb d_Mod_sum_43 ?_
      refine kVv (y := y_Mod_one) (ws' := fun u2 => [e_Mod a Mod_thrown Mod_width Mod_height Mod_many u2.1 Mod_bit Mod_single Mod_runs Mod_longest, e_ar a n cI 16 mr, e_ar a n cI 17 u2.2]) (wr := [e_ar a n cI 16 mr]) (As := [.int ((y2 : Int32) >>> (8 &&& 31))]) (rest := []) E hw (c_Mod_one (l := l) (dC := dC) (dI := dI) (cI := cI) (tb := tb) (a := a) (n := n) (Mod_thrown := Mod_thrown) (Mod_width := Mod_width) (Mod_height := Mod_height) (Mod_many := Mod_many) (Mod_size := Mod_size) (Mod_bit := Mod_bit) (Mod_single := Mod_single) (Mod_runs := Mod_runs) (Mod_longest := Mod_longest) (mf := mf) (x1 := (y2 : Int32) >>> (8 &&& 31)) h) tw516 tw518 tw22 tw44 tw519 1 (by decide) ⟨Nat.le_of_ble_eq_true rfl, Nat.le_of_ble_eq_true rfl⟩ ⟨Nat.le_of_ble_eq_true rfl, Nat.le_of_ble_eq_true rfl⟩ ⟨rfl, rfl⟩ rfl rfl 0 rfl [0, 2] [1] [1, 0, 2] rfl rfl rfl rfl (by decide) rfl (fun _ => rfl) hl.1 rfl rfl (Nat.le_of_ble_eq_true rfl) d_Mod_sum_44 (fun u2 H locs h hw => ?_)
      refine lv_aload_n hx hb d_Mod_sum_47 rfl (lv_at hl 0 rfl) ?_
      refine lv_iload_n hx hb d_Mod_sum_48 rfl (lv_at hl 2 rfl) ?_
      refine kVv (y := y_Mod_one) (ws' := fun u4 => [e_Mod a Mod_thrown Mod_width Mod_height Mod_many u4.1 Mod_bit Mod_single Mod_runs Mod_longest, e_ar a n cI 16 mr, e_ar a n cI 17 u4.2]) (wr := [e_ar a n cI 16 mr]) (As := [.int y2]) (rest := []) E hw (c_Mod_one (l := l) (dC := dC) (dI := dI) (cI := cI) (tb := tb) (a := a) (n := n) (Mod_thrown := Mod_thrown) (Mod_width := Mod_width) (Mod_height := Mod_height) (Mod_many := Mod_many) (Mod_size := u2.1) (Mod_bit := Mod_bit) (Mod_single := Mod_single) (Mod_runs := Mod_runs) (Mod_longest := Mod_longest) (mf := u2.2) (x1 := y2) h) tw516 tw518 tw22 tw44 tw519 1 (by decide) ⟨Nat.le_of_ble_eq_true rfl, Nat.le_of_ble_eq_true rfl⟩ ⟨Nat.le_of_ble_eq_true rfl, Nat.le_of_ble_eq_true rfl⟩ ⟨rfl, rfl⟩ rfl rfl 0 rfl [0, 2] [1] [1, 0, 2] rfl rfl rfl rfl (by decide) rfl (fun _ => rfl) hl.1 rfl rfl (Nat.le_of_ble_eq_true rfl) d_Mod_sum_49 (fun u4 H locs h hw => ?_)
      refine lv_aload_n hx hb d_Mod_sum_52 rfl (lv_at hl 0 rfl) ?_
      refine lv_iload_n hx hb d_Mod_sum_53 rfl (lv_at hl 1 rfl) ?_
      refine lv_bipush (v := 8) hx hb d_Mod_sum_54 (by decide) ?_
      refine lv_ishr hx hb d_Mod_sum_56 ?_
      refine kVv (y := y_Mod_one) (ws' := fun u6 => [e_Mod a Mod_thrown Mod_width Mod_height Mod_many u6.1 Mod_bit Mod_single Mod_runs Mod_longest, e_ar a n cI 16 mr, e_ar a n cI 17 u6.2]) (wr := [e_ar a n cI 16 mr]) (As := [.int ((y1 : Int32) >>> (8 &&& 31))]) (rest := []) E hw (c_Mod_one (l := l) (dC := dC) (dI := dI) (cI := cI) (tb := tb) (a := a) (n := n) (Mod_thrown := Mod_thrown) (Mod_width := Mod_width) (Mod_height := Mod_height) (Mod_many := Mod_many) (Mod_size := u4.1) (Mod_bit := Mod_bit) (Mod_single := Mod_single) (Mod_runs := Mod_runs) (Mod_longest := Mod_longest) (mf := u4.2) (x1 := (y1 : Int32) >>> (8 &&& 31)) h) tw516 tw518 tw22 tw44 tw519 1 (by decide) ⟨Nat.le_of_ble_eq_true rfl, Nat.le_of_ble_eq_true rfl⟩ ⟨Nat.le_of_ble_eq_true rfl, Nat.le_of_ble_eq_true rfl⟩ ⟨rfl, rfl⟩ rfl rfl 0 rfl [0, 2] [1] [1, 0, 2] rfl rfl rfl rfl (by decide) rfl (fun _ => rfl) hl.1 rfl rfl (Nat.le_of_ble_eq_true rfl) d_Mod_sum_57 (fun u6 H locs h hw => ?_)
      refine lv_aload_n hx hb d_Mod_sum_60 rfl (lv_at hl 0 rfl) ?_
      refine lv_iload_n hx hb d_Mod_sum_61 rfl (lv_at hl 1 rfl) ?_
      refine kVv (y := y_Mod_one) (ws' := fun u8 => [e_Mod a Mod_thrown Mod_width Mod_height Mod_many u8.1 Mod_bit Mod_single Mod_runs Mod_longest, e_ar a n cI 16 mr, e_ar a n cI 17 u8.2]) (wr := [e_ar a n cI 16 mr]) (As := [.int y1]) (rest := []) E hw (c_Mod_one (l := l) (dC := dC) (dI := dI) (cI := cI) (tb := tb) (a := a) (n := n) (Mod_thrown := Mod_thrown) (Mod_width := Mod_width) (Mod_height := Mod_height) (Mod_many := Mod_many) (Mod_size := u6.1) (Mod_bit := Mod_bit) (Mod_single := Mod_single) (Mod_runs := Mod_runs) (Mod_longest := Mod_longest) (mf := u6.2) (x1 := y1) h) tw516 tw518 tw22 tw44 tw519 1 (by decide) ⟨Nat.le_of_ble_eq_true rfl, Nat.le_of_ble_eq_true rfl⟩ ⟨Nat.le_of_ble_eq_true rfl, Nat.le_of_ble_eq_true rfl⟩ ⟨rfl, rfl⟩ rfl rfl 0 rfl [0, 2] [1] [1, 0, 2] rfl rfl rfl rfl (by decide) rfl (fun _ => rfl) hl.1 rfl rfl (Nat.le_of_ble_eq_true rfl) d_Mod_sum_62 (fun u8 H locs h hw => ?_)
      exact retV (out := fun u => [e_Mod a Mod_thrown Mod_width Mod_height Mod_many u.1 Mod_bit Mod_single Mod_runs Mod_longest, e_ar a n cI 16 mr, e_ar a n cI 17 u.2]) (u := (u8.1, u8.2)) E hr hlk hw h d_Mod_sum_65
    · have h := h.2 c1
      refine lv_iload_n hx hb d_Mod_sum_14 rfl (lv_at hl 1 rfl) ?_
      refine lv_aload_n hx hb d_Mod_sum_15 rfl (lv_at hl 0 rfl) ?_
      refine kget (v := .ref (a 16)) (T := F_Mod) E hw in_Mod rfl 0 4 rfl (by decide) tw439 rfl d_Mod_sum_16 ?_
      refine lv_iload_n hx hb d_Mod_sum_19 rfl (lv_at hl 3 rfl) ?_
      obtain ⟨b10, h⟩ := h
      refine kald E hw 1 rfl b10 d_Mod_sum_20 ?_
      refine lv_iadd hx hb d_Mod_sum_21 ?_
      refine lv_ldc (v := 65521) hx hb hown (hts _ tw566) d_Mod_sum_22 ?_
      refine lv_irem hx hb d_Mod_sum_24 (by decide) ?_
      refine lv_topi (fun z11 ez11 => ?_)
      have h := h z11 ez11
      refine lv_istore_n (lv' := [(1, .int z11), (0, .ref (a 7)), (2, .int y2), (3, .int y3)]) hx hb d_Mod_sum_25 rfl hl (by decide) rfl (fun ls hl => ?_)
      refine lv_iload_n hx hb d_Mod_sum_26 rfl (lv_at hl 2 rfl) ?_
      refine lv_iload_n hx hb d_Mod_sum_27 rfl (lv_at hl 0 rfl) ?_
      refine lv_iadd hx hb d_Mod_sum_28 ?_
      refine lv_ldc (v := 65521) hx hb hown (hts _ tw566) d_Mod_sum_29 ?_
      refine lv_irem hx hb d_Mod_sum_31 (by decide) ?_
      refine lv_topi (fun z12 ez12 => ?_)
      have h := h z12 ez12
      refine lv_istore_n (lv' := [(2, .int z12), (1, .int z11), (0, .ref (a 7)), (3, .int y3)]) hx hb d_Mod_sum_32 rfl hl (by decide) rfl (fun ls hl => ?_)
      obtain ⟨z13, ez13⟩ : ∃ z : Int32, z = y3 + 1 := ⟨_, rfl⟩
      have h := h z13 ez13
      refine lv_iinc (v := z13) (lv' := [(3, .int z13), (2, .int z12), (1, .int z11), (0, .ref (a 7))]) hx hb d_Mod_sum_33 hl (k := 3) rfl (by rw [ez13]; exact congrArg (y3 + ·) (by decide)) (by decide) rfl (fun ls hl => ?_)
      refine lv_goto (tgt := 6) hx hb d_Mod_sum_36 (by decide) ?_
      exact ih Mod_size mf z11 z12 z13 _ _ ls hw (lv_sub hl [3, 2, 1, 0] rfl) h
set_option maxHeartbeats 2000000 in
set_option maxRecDepth 20000 in
theorem c_Mod_sum {l : Launch} {dC : Nat → ClassId} {dI : Nat → Nat → Nat} {cI : ClassId} {tb a n : Nat → Nat} {Mod_thrown : Int32} {Mod_width : Int32} {Mod_height : Int32} {Mod_many : Int32} {Mod_size : Int32} {Mod_bit : Int32} {Mod_single : Int32} {Mod_runs : Int32} {Mod_longest : Int32} {mr : Nat → Int32} {mf : Nat → Int32} {post : Int32 × (Nat → Int32) → Prop} (h : wp_Mod_sum n Mod_many Mod_size mr mf post) : CtV classes dC dI cI tb l y_Mod_sum prog_9_method_24_code 4 ({ frames := 1, cells := 0, slots := 0, locals := 21 }) [.ref (a 7)] [e_Mod a Mod_thrown Mod_width Mod_height Mod_many Mod_size Mod_bit Mod_single Mod_runs Mod_longest, e_ar a n cI 16 mr, e_ar a n cI 17 mf] (Int32 × (Nat → Int32)) (fun u => [e_Mod a Mod_thrown Mod_width Mod_height Mod_many u.1 Mod_bit Mod_single Mod_runs Mod_longest, e_ar a n cI 16 mr, e_ar a n cI 17 u.2]) post := by
  refine startV (by decide) (Nat.le_of_ble_eq_true rfl) ?_
  intro p e s m below meth c ls E hr hlk hnm hl hw
  have hl : lv_has ls 4 [(0, .ref (a 7))] := hl
  generalize va_A [e_Mod a Mod_thrown Mod_width Mod_height Mod_many Mod_size Mod_bit Mod_single Mod_runs Mod_longest, e_ar a n cI 16 mr, e_ar a n cI 17 mf] s.heap.size = A at hw ⊢
  obtain ⟨hx, hb, hml, hown, hts⟩ := id E
  unfold wp_Mod_sum at h
  refine lv_iconst (v := 1) hx hb d_Mod_sum_0 (by decide) ?_
  refine lv_istore_n (lv' := [(1, .int 1), (0, .ref (a 7))]) hx hb d_Mod_sum_1 rfl hl (by decide) rfl (fun ls hl => ?_)
  refine lv_iconst (v := 0) hx hb d_Mod_sum_2 (by decide) ?_
  refine lv_istore_n (lv' := [(2, .int 0), (1, .int 1), (0, .ref (a 7))]) hx hb d_Mod_sum_3 rfl hl (by decide) rfl (fun ls hl => ?_)
  refine lv_iconst (v := 0) hx hb d_Mod_sum_4 (by decide) ?_
  refine lv_istore_n (lv' := [(3, .int 0), (2, .int 0), (1, .int 1), (0, .ref (a 7))]) hx hb d_Mod_sum_5 rfl hl (by decide) rfl (fun ls hl => ?_)
  obtain ⟨N14, h⟩ := h
  exact s_Mod_sum_6 (a := a) (n := n) (tb := tb) E hr hlk  N14 Mod_size mf 1 0 0 _ _ ls hw (lv_sub hl [3, 2, 1, 0] rfl) h
-- PicturePackerModel.put()I
theorem d_Mod_put_0 : decode prog_9_method_25_code 0 = .ok (.aload_n 0, 1) := by decide +kernel
theorem d_Mod_put_1 : decode prog_9_method_25_code 1 = .ok (.iconst 0, 1) := by decide +kernel
theorem d_Mod_put_2 : decode prog_9_method_25_code 2 = .ok (.putfield 26, 3) := by decide +kernel
theorem d_Mod_put_5 : decode prog_9_method_25_code 5 = .ok (.aload_n 0, 1) := by decide +kernel
theorem d_Mod_put_6 : decode prog_9_method_25_code 6 = .ok (.invokevirtual 98, 3) := by decide +kernel
theorem d_Mod_put_9 : decode prog_9_method_25_code 9 = .ok (.aload_n 0, 1) := by decide +kernel
theorem d_Mod_put_10 : decode prog_9_method_25_code 10 = .ok (.iconst 0, 1) := by decide +kernel
theorem d_Mod_put_11 : decode prog_9_method_25_code 11 = .ok (.putfield 51, 3) := by decide +kernel
theorem d_Mod_put_14 : decode prog_9_method_25_code 14 = .ok (.aload_n 0, 1) := by decide +kernel
theorem d_Mod_put_15 : decode prog_9_method_25_code 15 = .ok (.iconst 0, 1) := by decide +kernel
theorem d_Mod_put_16 : decode prog_9_method_25_code 16 = .ok (.putfield 94, 3) := by decide +kernel
theorem d_Mod_put_19 : decode prog_9_method_25_code 19 = .ok (.aload_n 0, 1) := by decide +kernel
theorem d_Mod_put_20 : decode prog_9_method_25_code 20 = .ok (.iconst 0, 1) := by decide +kernel
theorem d_Mod_put_21 : decode prog_9_method_25_code 21 = .ok (.putfield 88, 3) := by decide +kernel
theorem d_Mod_put_24 : decode prog_9_method_25_code 24 = .ok (.aload_n 0, 1) := by decide +kernel
theorem d_Mod_put_25 : decode prog_9_method_25_code 25 = .ok (.iconst 0, 1) := by decide +kernel
theorem d_Mod_put_26 : decode prog_9_method_25_code 26 = .ok (.putfield 91, 3) := by decide +kernel
theorem d_Mod_put_29 : decode prog_9_method_25_code 29 = .ok (.aload_n 0, 1) := by decide +kernel
theorem d_Mod_put_30 : decode prog_9_method_25_code 30 = .ok (.sipush 137, 3) := by decide +kernel
theorem d_Mod_put_33 : decode prog_9_method_25_code 33 = .ok (.bipush 80, 2) := by decide +kernel
theorem d_Mod_put_35 : decode prog_9_method_25_code 35 = .ok (.bipush 78, 2) := by decide +kernel
theorem d_Mod_put_37 : decode prog_9_method_25_code 37 = .ok (.bipush 71, 2) := by decide +kernel
theorem d_Mod_put_39 : decode prog_9_method_25_code 39 = .ok (.invokevirtual 101, 3) := by decide +kernel
theorem d_Mod_put_42 : decode prog_9_method_25_code 42 = .ok (.aload_n 0, 1) := by decide +kernel
theorem d_Mod_put_43 : decode prog_9_method_25_code 43 = .ok (.bipush 13, 2) := by decide +kernel
theorem d_Mod_put_45 : decode prog_9_method_25_code 45 = .ok (.bipush 10, 2) := by decide +kernel
theorem d_Mod_put_47 : decode prog_9_method_25_code 47 = .ok (.bipush 26, 2) := by decide +kernel
theorem d_Mod_put_49 : decode prog_9_method_25_code 49 = .ok (.bipush 10, 2) := by decide +kernel
theorem d_Mod_put_51 : decode prog_9_method_25_code 51 = .ok (.invokevirtual 101, 3) := by decide +kernel
theorem d_Mod_put_54 : decode prog_9_method_25_code 54 = .ok (.aload_n 0, 1) := by decide +kernel
theorem d_Mod_put_55 : decode prog_9_method_25_code 55 = .ok (.bipush 13, 2) := by decide +kernel
theorem d_Mod_put_57 : decode prog_9_method_25_code 57 = .ok (.invokevirtual 59, 3) := by decide +kernel
theorem d_Mod_put_60 : decode prog_9_method_25_code 60 = .ok (.aload_n 0, 1) := by decide +kernel
theorem d_Mod_put_61 : decode prog_9_method_25_code 61 = .ok (.bipush 73, 2) := by decide +kernel
theorem d_Mod_put_63 : decode prog_9_method_25_code 63 = .ok (.bipush 72, 2) := by decide +kernel
theorem d_Mod_put_65 : decode prog_9_method_25_code 65 = .ok (.bipush 68, 2) := by decide +kernel
theorem d_Mod_put_67 : decode prog_9_method_25_code 67 = .ok (.bipush 82, 2) := by decide +kernel
theorem d_Mod_put_69 : decode prog_9_method_25_code 69 = .ok (.invokevirtual 101, 3) := by decide +kernel
theorem d_Mod_put_72 : decode prog_9_method_25_code 72 = .ok (.aload_n 0, 1) := by decide +kernel
theorem d_Mod_put_73 : decode prog_9_method_25_code 73 = .ok (.aload_n 0, 1) := by decide +kernel
theorem d_Mod_put_74 : decode prog_9_method_25_code 74 = .ok (.getfield 19, 3) := by decide +kernel
theorem d_Mod_put_77 : decode prog_9_method_25_code 77 = .ok (.invokevirtual 59, 3) := by decide +kernel
theorem d_Mod_put_80 : decode prog_9_method_25_code 80 = .ok (.aload_n 0, 1) := by decide +kernel
theorem d_Mod_put_81 : decode prog_9_method_25_code 81 = .ok (.aload_n 0, 1) := by decide +kernel
theorem d_Mod_put_82 : decode prog_9_method_25_code 82 = .ok (.getfield 23, 3) := by decide +kernel
theorem d_Mod_put_85 : decode prog_9_method_25_code 85 = .ok (.invokevirtual 59, 3) := by decide +kernel
theorem d_Mod_put_88 : decode prog_9_method_25_code 88 = .ok (.aload_n 0, 1) := by decide +kernel
theorem d_Mod_put_89 : decode prog_9_method_25_code 89 = .ok (.bipush 8, 2) := by decide +kernel
theorem d_Mod_put_91 : decode prog_9_method_25_code 91 = .ok (.invokevirtual 54, 3) := by decide +kernel
theorem d_Mod_put_94 : decode prog_9_method_25_code 94 = .ok (.aload_n 0, 1) := by decide +kernel
theorem d_Mod_put_95 : decode prog_9_method_25_code 95 = .ok (.iconst 2, 1) := by decide +kernel
theorem d_Mod_put_96 : decode prog_9_method_25_code 96 = .ok (.invokevirtual 54, 3) := by decide +kernel
theorem d_Mod_put_99 : decode prog_9_method_25_code 99 = .ok (.aload_n 0, 1) := by decide +kernel
theorem d_Mod_put_100 : decode prog_9_method_25_code 100 = .ok (.iconst 0, 1) := by decide +kernel
theorem d_Mod_put_101 : decode prog_9_method_25_code 101 = .ok (.invokevirtual 54, 3) := by decide +kernel
theorem d_Mod_put_104 : decode prog_9_method_25_code 104 = .ok (.aload_n 0, 1) := by decide +kernel
theorem d_Mod_put_105 : decode prog_9_method_25_code 105 = .ok (.iconst 0, 1) := by decide +kernel
theorem d_Mod_put_106 : decode prog_9_method_25_code 106 = .ok (.invokevirtual 54, 3) := by decide +kernel
theorem d_Mod_put_109 : decode prog_9_method_25_code 109 = .ok (.aload_n 0, 1) := by decide +kernel
theorem d_Mod_put_110 : decode prog_9_method_25_code 110 = .ok (.iconst 0, 1) := by decide +kernel
theorem d_Mod_put_111 : decode prog_9_method_25_code 111 = .ok (.invokevirtual 54, 3) := by decide +kernel
theorem d_Mod_put_114 : decode prog_9_method_25_code 114 = .ok (.aload_n 0, 1) := by decide +kernel
theorem d_Mod_put_115 : decode prog_9_method_25_code 115 = .ok (.bipush 12, 2) := by decide +kernel
theorem d_Mod_put_117 : decode prog_9_method_25_code 117 = .ok (.invokevirtual 105, 3) := by decide +kernel
theorem d_Mod_put_120 : decode prog_9_method_25_code 120 = .ok (.aload_n 0, 1) := by decide +kernel
theorem d_Mod_put_121 : decode prog_9_method_25_code 121 = .ok (.getfield 51, 3) := by decide +kernel
theorem d_Mod_put_124 : decode prog_9_method_25_code 124 = .ok (.istore_n 1, 1) := by decide +kernel
theorem d_Mod_put_125 : decode prog_9_method_25_code 125 = .ok (.aload_n 0, 1) := by decide +kernel
theorem d_Mod_put_126 : decode prog_9_method_25_code 126 = .ok (.iconst 0, 1) := by decide +kernel
theorem d_Mod_put_127 : decode prog_9_method_25_code 127 = .ok (.invokevirtual 59, 3) := by decide +kernel
theorem d_Mod_put_130 : decode prog_9_method_25_code 130 = .ok (.aload_n 0, 1) := by decide +kernel
theorem d_Mod_put_131 : decode prog_9_method_25_code 131 = .ok (.bipush 73, 2) := by decide +kernel
theorem d_Mod_put_133 : decode prog_9_method_25_code 133 = .ok (.bipush 68, 2) := by decide +kernel
theorem d_Mod_put_135 : decode prog_9_method_25_code 135 = .ok (.bipush 65, 2) := by decide +kernel
theorem d_Mod_put_137 : decode prog_9_method_25_code 137 = .ok (.bipush 84, 2) := by decide +kernel
theorem d_Mod_put_139 : decode prog_9_method_25_code 139 = .ok (.invokevirtual 101, 3) := by decide +kernel
theorem d_Mod_put_142 : decode prog_9_method_25_code 142 = .ok (.aload_n 0, 1) := by decide +kernel
theorem d_Mod_put_143 : decode prog_9_method_25_code 143 = .ok (.bipush 120, 2) := by decide +kernel
theorem d_Mod_put_145 : decode prog_9_method_25_code 145 = .ok (.invokevirtual 54, 3) := by decide +kernel
theorem d_Mod_put_148 : decode prog_9_method_25_code 148 = .ok (.aload_n 0, 1) := by decide +kernel
theorem d_Mod_put_149 : decode prog_9_method_25_code 149 = .ok (.iconst 1, 1) := by decide +kernel
theorem d_Mod_put_150 : decode prog_9_method_25_code 150 = .ok (.invokevirtual 54, 3) := by decide +kernel
theorem d_Mod_put_153 : decode prog_9_method_25_code 153 = .ok (.aload_n 0, 1) := by decide +kernel
theorem d_Mod_put_154 : decode prog_9_method_25_code 154 = .ok (.iconst 0, 1) := by decide +kernel
theorem d_Mod_put_155 : decode prog_9_method_25_code 155 = .ok (.putfield 62, 3) := by decide +kernel
theorem d_Mod_put_158 : decode prog_9_method_25_code 158 = .ok (.aload_n 0, 1) := by decide +kernel
theorem d_Mod_put_159 : decode prog_9_method_25_code 159 = .ok (.invokevirtual 108, 3) := by decide +kernel
theorem d_Mod_put_162 : decode prog_9_method_25_code 162 = .ok (.aload_n 0, 1) := by decide +kernel
theorem d_Mod_put_163 : decode prog_9_method_25_code 163 = .ok (.invokevirtual 111, 3) := by decide +kernel
theorem d_Mod_put_166 : decode prog_9_method_25_code 166 = .ok (.aload_n 0, 1) := by decide +kernel
theorem d_Mod_put_167 : decode prog_9_method_25_code 167 = .ok (.getfield 51, 3) := by decide +kernel
theorem d_Mod_put_170 : decode prog_9_method_25_code 170 = .ok (.iload_n 1, 1) := by decide +kernel
theorem d_Mod_put_171 : decode prog_9_method_25_code 171 = .ok (.isub, 1) := by decide +kernel
theorem d_Mod_put_172 : decode prog_9_method_25_code 172 = .ok (.bipush 8, 2) := by decide +kernel
theorem d_Mod_put_174 : decode prog_9_method_25_code 174 = .ok (.isub, 1) := by decide +kernel
theorem d_Mod_put_175 : decode prog_9_method_25_code 175 = .ok (.istore_n 2, 1) := by decide +kernel
theorem d_Mod_put_176 : decode prog_9_method_25_code 176 = .ok (.aload_n 0, 1) := by decide +kernel
theorem d_Mod_put_177 : decode prog_9_method_25_code 177 = .ok (.getfield 16, 3) := by decide +kernel
theorem d_Mod_put_180 : decode prog_9_method_25_code 180 = .ok (.iload_n 1, 1) := by decide +kernel
theorem d_Mod_put_181 : decode prog_9_method_25_code 181 = .ok (.iconst 2, 1) := by decide +kernel
theorem d_Mod_put_182 : decode prog_9_method_25_code 182 = .ok (.iadd, 1) := by decide +kernel
theorem d_Mod_put_183 : decode prog_9_method_25_code 183 = .ok (.iload_n 2, 1) := by decide +kernel
theorem d_Mod_put_184 : decode prog_9_method_25_code 184 = .ok (.bipush 8, 2) := by decide +kernel
theorem d_Mod_put_186 : decode prog_9_method_25_code 186 = .ok (.ishr, 1) := by decide +kernel
theorem d_Mod_put_187 : decode prog_9_method_25_code 187 = .ok (.iastore, 1) := by decide +kernel
theorem d_Mod_put_188 : decode prog_9_method_25_code 188 = .ok (.aload_n 0, 1) := by decide +kernel
theorem d_Mod_put_189 : decode prog_9_method_25_code 189 = .ok (.getfield 16, 3) := by decide +kernel
theorem d_Mod_put_192 : decode prog_9_method_25_code 192 = .ok (.iload_n 1, 1) := by decide +kernel
theorem d_Mod_put_193 : decode prog_9_method_25_code 193 = .ok (.iconst 3, 1) := by decide +kernel
theorem d_Mod_put_194 : decode prog_9_method_25_code 194 = .ok (.iadd, 1) := by decide +kernel
theorem d_Mod_put_195 : decode prog_9_method_25_code 195 = .ok (.iload_n 2, 1) := by decide +kernel
theorem d_Mod_put_196 : decode prog_9_method_25_code 196 = .ok (.sipush 255, 3) := by decide +kernel
theorem d_Mod_put_199 : decode prog_9_method_25_code 199 = .ok (.iand, 1) := by decide +kernel
theorem d_Mod_put_200 : decode prog_9_method_25_code 200 = .ok (.iastore, 1) := by decide +kernel
theorem d_Mod_put_201 : decode prog_9_method_25_code 201 = .ok (.aload_n 0, 1) := by decide +kernel
theorem d_Mod_put_202 : decode prog_9_method_25_code 202 = .ok (.iload_n 1, 1) := by decide +kernel
theorem d_Mod_put_203 : decode prog_9_method_25_code 203 = .ok (.iconst 4, 1) := by decide +kernel
theorem d_Mod_put_204 : decode prog_9_method_25_code 204 = .ok (.iadd, 1) := by decide +kernel
theorem d_Mod_put_205 : decode prog_9_method_25_code 205 = .ok (.invokevirtual 105, 3) := by decide +kernel
theorem d_Mod_put_208 : decode prog_9_method_25_code 208 = .ok (.aload_n 0, 1) := by decide +kernel
theorem d_Mod_put_209 : decode prog_9_method_25_code 209 = .ok (.iconst 0, 1) := by decide +kernel
theorem d_Mod_put_210 : decode prog_9_method_25_code 210 = .ok (.invokevirtual 59, 3) := by decide +kernel
theorem d_Mod_put_213 : decode prog_9_method_25_code 213 = .ok (.aload_n 0, 1) := by decide +kernel
theorem d_Mod_put_214 : decode prog_9_method_25_code 214 = .ok (.bipush 73, 2) := by decide +kernel
theorem d_Mod_put_216 : decode prog_9_method_25_code 216 = .ok (.bipush 69, 2) := by decide +kernel
theorem d_Mod_put_218 : decode prog_9_method_25_code 218 = .ok (.bipush 78, 2) := by decide +kernel
theorem d_Mod_put_220 : decode prog_9_method_25_code 220 = .ok (.bipush 68, 2) := by decide +kernel
theorem d_Mod_put_222 : decode prog_9_method_25_code 222 = .ok (.invokevirtual 101, 3) := by decide +kernel
theorem d_Mod_put_225 : decode prog_9_method_25_code 225 = .ok (.aload_n 0, 1) := by decide +kernel
theorem d_Mod_put_226 : decode prog_9_method_25_code 226 = .ok (.aload_n 0, 1) := by decide +kernel
theorem d_Mod_put_227 : decode prog_9_method_25_code 227 = .ok (.getfield 51, 3) := by decide +kernel
theorem d_Mod_put_230 : decode prog_9_method_25_code 230 = .ok (.iconst 4, 1) := by decide +kernel
theorem d_Mod_put_231 : decode prog_9_method_25_code 231 = .ok (.isub, 1) := by decide +kernel
theorem d_Mod_put_232 : decode prog_9_method_25_code 232 = .ok (.invokevirtual 105, 3) := by decide +kernel
theorem d_Mod_put_235 : decode prog_9_method_25_code 235 = .ok (.aload_n 0, 1) := by decide +kernel
theorem d_Mod_put_236 : decode prog_9_method_25_code 236 = .ok (.getfield 51, 3) := by decide +kernel
theorem d_Mod_put_239 : decode prog_9_method_25_code 239 = .ok (.ireturn, 1) := by decide +kernel
abbrev y_Mod_put : MethodName := ⟨"PicturePackerModel", "put", "()I"⟩
def wp_Mod_put (n : Nat → Nat) (Mod_thrown : Int32) (Mod_width : Int32) (Mod_height : Int32) (Mod_many : Int32) (Mod_size : Int32) (Mod_bit : Int32) (Mod_single : Int32) (Mod_runs : Int32) (Mod_longest : Int32) (mc : Nat → Int32) (mr : Nat → Int32) (mf : Nat → Int32) (post : Int32 → Int32 × Int32 × Int32 × Int32 × Int32 × Int32 × Int32 × (Nat → Int32) × (Nat → Int32) → Prop) : Prop := wp_Mod_makeRows n Mod_width Mod_height Mod_many mc mr (fun u1 => wp_Mod_name n 0 mf 137 80 78 71 (fun u3 => wp_Mod_name n u3.1 u3.2 13 10 26 10 (fun u5 => wp_Mod_four n u5.1 u5.2 13 (fun u7 => wp_Mod_name n u7.1 u7.2 73 72 68 82 (fun u9 => wp_Mod_four n u9.1 u9.2 Mod_width (fun u11 => wp_Mod_four n u11.1 u11.2 Mod_height (fun u13 => wp_Mod_one n u13.1 u13.2 8 (fun u15 => wp_Mod_one n u15.1 u15.2 2 (fun u17 => wp_Mod_one n u17.1 u17.2 0 (fun u19 => wp_Mod_one n u19.1 u19.2 0 (fun u21 => wp_Mod_one n u21.1 u21.2 0 (fun u23 => wp_Mod_check n u23.1 u23.2 12 (fun u25 => wp_Mod_four n u25.1 u25.2 0 (fun u27 => wp_Mod_name n u27.1 u27.2 73 68 65 84 (fun u29 => wp_Mod_one n u29.1 u29.2 120 (fun u31 => wp_Mod_one n u31.1 u31.2 1 (fun u33 => wp_Mod_pack n u1.1 u33.1 0 0 0 0 u1.2 u33.2 (fun u35 => wp_Mod_sum n u1.1 u35.1 u1.2 u35.2.2.2.2.2 (fun u37 => ∀ z39 : Int32, z39 = ((u37.1 - u25.1) - 8) → (∀ z40 : Int32, z40 = ((z39 : Int32) >>> (8 &&& 31)) → (vp_in (u25.1 + 2) (n 17) ∧ (∀ f42 : Nat → Int32, f42 = upd u37.2 (u25.1 + 2 : Int32).toNatClampNeg z40 → (∀ z43 : Int32, z43 = (z39 &&& 255) → (vp_in (u25.1 + 3) (n 17) ∧ (∀ f45 : Nat → Int32, f45 = upd f42 (u25.1 + 3 : Int32).toNatClampNeg z43 → (wp_Mod_check n u37.1 f45 (u25.1 + 4) (fun u46 => wp_Mod_four n u46.1 u46.2 0 (fun u48 => wp_Mod_name n u48.1 u48.2 73 69 78 68 (fun u50 => wp_Mod_check n u50.1 u50.2 (u50.1 - 4) (fun u52 => post u52.1 (0, u1.1, u52.1, u35.2.1, u35.2.2.1, u35.2.2.2.1, u35.2.2.2.2.1, u1.2, u52.2)))))))))))))))))))))))))))))))
set_option maxHeartbeats 2000000 in
set_option maxRecDepth 20000 in
theorem c_Mod_put {l : Launch} {dC : Nat → ClassId} {dI : Nat → Nat → Nat} {cI : ClassId} {tb a n : Nat → Nat} {Mod_thrown : Int32} {Mod_width : Int32} {Mod_height : Int32} {Mod_many : Int32} {Mod_size : Int32} {Mod_bit : Int32} {Mod_single : Int32} {Mod_runs : Int32} {Mod_longest : Int32} {mc : Nat → Int32} {mr : Nat → Int32} {mf : Nat → Int32} {post : Int32 → Int32 × Int32 × Int32 × Int32 × Int32 × Int32 × Int32 × (Nat → Int32) × (Nat → Int32) → Prop} (h : wp_Mod_put n Mod_thrown Mod_width Mod_height Mod_many Mod_size Mod_bit Mod_single Mod_runs Mod_longest mc mr mf post) : CtI classes dC dI cI tb l y_Mod_put prog_9_method_25_code 3 .int ({ frames := 6, cells := 0, slots := 0, locals := 136 }) [.ref (a 7)] [e_Mod a Mod_thrown Mod_width Mod_height Mod_many Mod_size Mod_bit Mod_single Mod_runs Mod_longest, e_ar a n cI 15 mc, e_ar a n cI 16 mr, e_ar a n cI 17 mf] (Int32 × Int32 × Int32 × Int32 × Int32 × Int32 × Int32 × (Nat → Int32) × (Nat → Int32)) (fun u => [e_Mod a u.1 Mod_width Mod_height u.2.1 u.2.2.1 u.2.2.2.1 u.2.2.2.2.1 u.2.2.2.2.2.1 u.2.2.2.2.2.2.1, e_ar a n cI 15 mc, e_ar a n cI 16 u.2.2.2.2.2.2.2.1, e_ar a n cI 17 u.2.2.2.2.2.2.2.2]) post := by
  refine startI (by decide) (Nat.le_of_ble_eq_true rfl) ?_
  intro p e s m below meth c ls E hr hlk hnm hl hw
  have hl : lv_has ls 3 [(0, .ref (a 7))] := hl
  generalize va_A [e_Mod a Mod_thrown Mod_width Mod_height Mod_many Mod_size Mod_bit Mod_single Mod_runs Mod_longest, e_ar a n cI 15 mc, e_ar a n cI 16 mr, e_ar a n cI 17 mf] s.heap.size = A at hw ⊢
  obtain ⟨hx, hb, hml, hown, hts⟩ := id E
  unfold wp_Mod_put at h
  refine lv_aload_n hx hb d_Mod_put_0 rfl (lv_at hl 0 rfl) ?_
  refine lv_iconst (v := 0) hx hb d_Mod_put_1 (by decide) ?_
  refine kput (v := .int 0) (ty := .int) (T := F_Mod) (ws' := [e_Mod a 0 Mod_width Mod_height Mod_many Mod_size Mod_bit Mod_single Mod_runs Mod_longest, e_ar a n cI 15 mc, e_ar a n cI 16 mr, e_ar a n cI 17 mf]) E hw in_Mod t_Mod t_Mod_ok n_Mod rfl 0 0 rfl (by decide) tw435 rfl rfl rfl rfl (Nat.le_of_ble_eq_true rfl) rfl d_Mod_put_2 (fun H locs hw => ?_)
  refine lv_aload_n hx hb d_Mod_put_5 rfl (lv_at hl 0 rfl) ?_
  refine kVv (y := y_Mod_makeRows) (ws' := fun u1 => [e_Mod a 0 Mod_width Mod_height u1.1 Mod_size Mod_bit Mod_single Mod_runs Mod_longest, e_ar a n cI 15 mc, e_ar a n cI 16 u1.2, e_ar a n cI 17 mf]) (wr := [e_ar a n cI 17 mf]) (As := []) (rest := []) E hw (c_Mod_makeRows (l := l) (dC := dC) (dI := dI) (cI := cI) (tb := tb) (a := a) (n := n) (Mod_thrown := 0) (Mod_width := Mod_width) (Mod_height := Mod_height) (Mod_many := Mod_many) (Mod_size := Mod_size) (Mod_bit := Mod_bit) (Mod_single := Mod_single) (Mod_runs := Mod_runs) (Mod_longest := Mod_longest) (mc := mc) (mr := mr)  h) tw493 tw495 tw17 tw44 tw496 0 (by decide) ⟨Nat.le_of_ble_eq_true rfl, Nat.le_of_ble_eq_true rfl⟩ ⟨Nat.le_of_ble_eq_true rfl, Nat.le_of_ble_eq_true rfl⟩ ⟨rfl, rfl⟩ rfl rfl 0 rfl [0, 1, 2] [3] [1, 2, 3, 0] rfl rfl rfl rfl (by decide) rfl (fun _ => rfl) hl.1 rfl rfl (Nat.le_of_ble_eq_true rfl) d_Mod_put_6 (fun u1 H locs h hw => ?_)
  refine lv_aload_n hx hb d_Mod_put_9 rfl (lv_at hl 0 rfl) ?_
  refine lv_iconst (v := 0) hx hb d_Mod_put_10 (by decide) ?_
  refine kput (v := .int 0) (ty := .int) (T := F_Mod) (ws' := [e_Mod a 0 Mod_width Mod_height u1.1 0 Mod_bit Mod_single Mod_runs Mod_longest, e_ar a n cI 15 mc, e_ar a n cI 16 u1.2, e_ar a n cI 17 mf]) E hw in_Mod t_Mod t_Mod_ok n_Mod rfl 0 7 rfl (by decide) tw442 rfl rfl rfl rfl (Nat.le_of_ble_eq_true rfl) rfl d_Mod_put_11 (fun H locs hw => ?_)
  refine lv_aload_n hx hb d_Mod_put_14 rfl (lv_at hl 0 rfl) ?_
  refine lv_iconst (v := 0) hx hb d_Mod_put_15 (by decide) ?_
  refine kput (v := .int 0) (ty := .int) (T := F_Mod) (ws' := [e_Mod a 0 Mod_width Mod_height u1.1 0 Mod_bit 0 Mod_runs Mod_longest, e_ar a n cI 15 mc, e_ar a n cI 16 u1.2, e_ar a n cI 17 mf]) E hw in_Mod t_Mod t_Mod_ok n_Mod rfl 0 9 rfl (by decide) tw444 rfl rfl rfl rfl (Nat.le_of_ble_eq_true rfl) rfl d_Mod_put_16 (fun H locs hw => ?_)
  refine lv_aload_n hx hb d_Mod_put_19 rfl (lv_at hl 0 rfl) ?_
  refine lv_iconst (v := 0) hx hb d_Mod_put_20 (by decide) ?_
  refine kput (v := .int 0) (ty := .int) (T := F_Mod) (ws' := [e_Mod a 0 Mod_width Mod_height u1.1 0 Mod_bit 0 0 Mod_longest, e_ar a n cI 15 mc, e_ar a n cI 16 u1.2, e_ar a n cI 17 mf]) E hw in_Mod t_Mod t_Mod_ok n_Mod rfl 0 10 rfl (by decide) tw445 rfl rfl rfl rfl (Nat.le_of_ble_eq_true rfl) rfl d_Mod_put_21 (fun H locs hw => ?_)
  refine lv_aload_n hx hb d_Mod_put_24 rfl (lv_at hl 0 rfl) ?_
  refine lv_iconst (v := 0) hx hb d_Mod_put_25 (by decide) ?_
  refine kput (v := .int 0) (ty := .int) (T := F_Mod) (ws' := [e_Mod a 0 Mod_width Mod_height u1.1 0 Mod_bit 0 0 0, e_ar a n cI 15 mc, e_ar a n cI 16 u1.2, e_ar a n cI 17 mf]) E hw in_Mod t_Mod t_Mod_ok n_Mod rfl 0 11 rfl (by decide) tw446 rfl rfl rfl rfl (Nat.le_of_ble_eq_true rfl) rfl d_Mod_put_26 (fun H locs hw => ?_)
  refine lv_aload_n hx hb d_Mod_put_29 rfl (lv_at hl 0 rfl) ?_
  refine lv_sipush (v := 137) hx hb d_Mod_put_30 (by decide) ?_
  refine lv_bipush (v := 80) hx hb d_Mod_put_33 (by decide) ?_
  refine lv_bipush (v := 78) hx hb d_Mod_put_35 (by decide) ?_
  refine lv_bipush (v := 71) hx hb d_Mod_put_37 (by decide) ?_
  refine kVv (y := y_Mod_name) (ws' := fun u3 => [e_Mod a 0 Mod_width Mod_height u1.1 u3.1 Mod_bit 0 0 0, e_ar a n cI 15 mc, e_ar a n cI 16 u1.2, e_ar a n cI 17 u3.2]) (wr := [e_ar a n cI 15 mc, e_ar a n cI 16 u1.2]) (As := [.int 137, .int 80, .int 78, .int 71]) (rest := []) E hw (c_Mod_name (l := l) (dC := dC) (dI := dI) (cI := cI) (tb := tb) (a := a) (n := n) (Mod_thrown := 0) (Mod_width := Mod_width) (Mod_height := Mod_height) (Mod_many := u1.1) (Mod_size := 0) (Mod_bit := Mod_bit) (Mod_single := 0) (Mod_runs := 0) (Mod_longest := 0) (mf := mf) (x1 := 137) (x2 := 80) (x3 := 78) (x4 := 71) h) tw512 tw514 tw21 tw44 tw515 4 (by decide) ⟨Nat.le_of_ble_eq_true rfl, Nat.le_of_ble_eq_true rfl⟩ ⟨Nat.le_of_ble_eq_true rfl, Nat.le_of_ble_eq_true rfl⟩ ⟨rfl, rfl⟩ rfl rfl 0 rfl [0, 3] [1, 2] [2, 0, 1, 3] rfl rfl rfl rfl (by decide) rfl (fun _ => rfl) hl.1 rfl rfl (Nat.le_of_ble_eq_true rfl) d_Mod_put_39 (fun u3 H locs h hw => ?_)
  refine lv_aload_n hx hb d_Mod_put_42 rfl (lv_at hl 0 rfl) ?_
  refine lv_bipush (v := 13) hx hb d_Mod_put_43 (by decide) ?_
  refine lv_bipush (v := 10) hx hb d_Mod_put_45 (by decide) ?_
  refine lv_bipush (v := 26) hx hb d_Mod_put_47 (by decide) ?_
  refine lv_bipush (v := 10) hx hb d_Mod_put_49 (by decide) ?_
  refine kVv (y := y_Mod_name) (ws' := fun u5 => [e_Mod a 0 Mod_width Mod_height u1.1 u5.1 Mod_bit 0 0 0, e_ar a n cI 15 mc, e_ar a n cI 16 u1.2, e_ar a n cI 17 u5.2]) (wr := [e_ar a n cI 15 mc, e_ar a n cI 16 u1.2]) (As := [.int 13, .int 10, .int 26, .int 10]) (rest := []) E hw (c_Mod_name (l := l) (dC := dC) (dI := dI) (cI := cI) (tb := tb) (a := a) (n := n) (Mod_thrown := 0) (Mod_width := Mod_width) (Mod_height := Mod_height) (Mod_many := u1.1) (Mod_size := u3.1) (Mod_bit := Mod_bit) (Mod_single := 0) (Mod_runs := 0) (Mod_longest := 0) (mf := u3.2) (x1 := 13) (x2 := 10) (x3 := 26) (x4 := 10) h) tw512 tw514 tw21 tw44 tw515 4 (by decide) ⟨Nat.le_of_ble_eq_true rfl, Nat.le_of_ble_eq_true rfl⟩ ⟨Nat.le_of_ble_eq_true rfl, Nat.le_of_ble_eq_true rfl⟩ ⟨rfl, rfl⟩ rfl rfl 0 rfl [0, 3] [1, 2] [2, 0, 1, 3] rfl rfl rfl rfl (by decide) rfl (fun _ => rfl) hl.1 rfl rfl (Nat.le_of_ble_eq_true rfl) d_Mod_put_51 (fun u5 H locs h hw => ?_)
  refine lv_aload_n hx hb d_Mod_put_54 rfl (lv_at hl 0 rfl) ?_
  refine lv_bipush (v := 13) hx hb d_Mod_put_55 (by decide) ?_
  refine kVv (y := y_Mod_four) (ws' := fun u7 => [e_Mod a 0 Mod_width Mod_height u1.1 u7.1 Mod_bit 0 0 0, e_ar a n cI 15 mc, e_ar a n cI 16 u1.2, e_ar a n cI 17 u7.2]) (wr := [e_ar a n cI 15 mc, e_ar a n cI 16 u1.2]) (As := [.int 13]) (rest := []) E hw (c_Mod_four (l := l) (dC := dC) (dI := dI) (cI := cI) (tb := tb) (a := a) (n := n) (Mod_thrown := 0) (Mod_width := Mod_width) (Mod_height := Mod_height) (Mod_many := u1.1) (Mod_size := u5.1) (Mod_bit := Mod_bit) (Mod_single := 0) (Mod_runs := 0) (Mod_longest := 0) (mf := u5.2) (x1 := 13) h) tw520 tw522 tw23 tw44 tw523 1 (by decide) ⟨Nat.le_of_ble_eq_true rfl, Nat.le_of_ble_eq_true rfl⟩ ⟨Nat.le_of_ble_eq_true rfl, Nat.le_of_ble_eq_true rfl⟩ ⟨rfl, rfl⟩ rfl rfl 0 rfl [0, 3] [1, 2] [2, 0, 1, 3] rfl rfl rfl rfl (by decide) rfl (fun _ => rfl) hl.1 rfl rfl (Nat.le_of_ble_eq_true rfl) d_Mod_put_57 (fun u7 H locs h hw => ?_)
  refine lv_aload_n hx hb d_Mod_put_60 rfl (lv_at hl 0 rfl) ?_
  refine lv_bipush (v := 73) hx hb d_Mod_put_61 (by decide) ?_
  refine lv_bipush (v := 72) hx hb d_Mod_put_63 (by decide) ?_
  refine lv_bipush (v := 68) hx hb d_Mod_put_65 (by decide) ?_
  refine lv_bipush (v := 82) hx hb d_Mod_put_67 (by decide) ?_
  refine kVv (y := y_Mod_name) (ws' := fun u9 => [e_Mod a 0 Mod_width Mod_height u1.1 u9.1 Mod_bit 0 0 0, e_ar a n cI 15 mc, e_ar a n cI 16 u1.2, e_ar a n cI 17 u9.2]) (wr := [e_ar a n cI 15 mc, e_ar a n cI 16 u1.2]) (As := [.int 73, .int 72, .int 68, .int 82]) (rest := []) E hw (c_Mod_name (l := l) (dC := dC) (dI := dI) (cI := cI) (tb := tb) (a := a) (n := n) (Mod_thrown := 0) (Mod_width := Mod_width) (Mod_height := Mod_height) (Mod_many := u1.1) (Mod_size := u7.1) (Mod_bit := Mod_bit) (Mod_single := 0) (Mod_runs := 0) (Mod_longest := 0) (mf := u7.2) (x1 := 73) (x2 := 72) (x3 := 68) (x4 := 82) h) tw512 tw514 tw21 tw44 tw515 4 (by decide) ⟨Nat.le_of_ble_eq_true rfl, Nat.le_of_ble_eq_true rfl⟩ ⟨Nat.le_of_ble_eq_true rfl, Nat.le_of_ble_eq_true rfl⟩ ⟨rfl, rfl⟩ rfl rfl 0 rfl [0, 3] [1, 2] [2, 0, 1, 3] rfl rfl rfl rfl (by decide) rfl (fun _ => rfl) hl.1 rfl rfl (Nat.le_of_ble_eq_true rfl) d_Mod_put_69 (fun u9 H locs h hw => ?_)
  refine lv_aload_n hx hb d_Mod_put_72 rfl (lv_at hl 0 rfl) ?_
  refine lv_aload_n hx hb d_Mod_put_73 rfl (lv_at hl 0 rfl) ?_
  refine kget (v := .int Mod_width) (T := F_Mod) E hw in_Mod rfl 0 1 rfl (by decide) tw436 rfl d_Mod_put_74 ?_
  refine kVv (y := y_Mod_four) (ws' := fun u11 => [e_Mod a 0 Mod_width Mod_height u1.1 u11.1 Mod_bit 0 0 0, e_ar a n cI 15 mc, e_ar a n cI 16 u1.2, e_ar a n cI 17 u11.2]) (wr := [e_ar a n cI 15 mc, e_ar a n cI 16 u1.2]) (As := [.int Mod_width]) (rest := []) E hw (c_Mod_four (l := l) (dC := dC) (dI := dI) (cI := cI) (tb := tb) (a := a) (n := n) (Mod_thrown := 0) (Mod_width := Mod_width) (Mod_height := Mod_height) (Mod_many := u1.1) (Mod_size := u9.1) (Mod_bit := Mod_bit) (Mod_single := 0) (Mod_runs := 0) (Mod_longest := 0) (mf := u9.2) (x1 := Mod_width) h) tw520 tw522 tw23 tw44 tw523 1 (by decide) ⟨Nat.le_of_ble_eq_true rfl, Nat.le_of_ble_eq_true rfl⟩ ⟨Nat.le_of_ble_eq_true rfl, Nat.le_of_ble_eq_true rfl⟩ ⟨rfl, rfl⟩ rfl rfl 0 rfl [0, 3] [1, 2] [2, 0, 1, 3] rfl rfl rfl rfl (by decide) rfl (fun _ => rfl) hl.1 rfl rfl (Nat.le_of_ble_eq_true rfl) d_Mod_put_77 (fun u11 H locs h hw => ?_)
  refine lv_aload_n hx hb d_Mod_put_80 rfl (lv_at hl 0 rfl) ?_
  refine lv_aload_n hx hb d_Mod_put_81 rfl (lv_at hl 0 rfl) ?_
  refine kget (v := .int Mod_height) (T := F_Mod) E hw in_Mod rfl 0 2 rfl (by decide) tw437 rfl d_Mod_put_82 ?_
  refine kVv (y := y_Mod_four) (ws' := fun u13 => [e_Mod a 0 Mod_width Mod_height u1.1 u13.1 Mod_bit 0 0 0, e_ar a n cI 15 mc, e_ar a n cI 16 u1.2, e_ar a n cI 17 u13.2]) (wr := [e_ar a n cI 15 mc, e_ar a n cI 16 u1.2]) (As := [.int Mod_height]) (rest := []) E hw (c_Mod_four (l := l) (dC := dC) (dI := dI) (cI := cI) (tb := tb) (a := a) (n := n) (Mod_thrown := 0) (Mod_width := Mod_width) (Mod_height := Mod_height) (Mod_many := u1.1) (Mod_size := u11.1) (Mod_bit := Mod_bit) (Mod_single := 0) (Mod_runs := 0) (Mod_longest := 0) (mf := u11.2) (x1 := Mod_height) h) tw520 tw522 tw23 tw44 tw523 1 (by decide) ⟨Nat.le_of_ble_eq_true rfl, Nat.le_of_ble_eq_true rfl⟩ ⟨Nat.le_of_ble_eq_true rfl, Nat.le_of_ble_eq_true rfl⟩ ⟨rfl, rfl⟩ rfl rfl 0 rfl [0, 3] [1, 2] [2, 0, 1, 3] rfl rfl rfl rfl (by decide) rfl (fun _ => rfl) hl.1 rfl rfl (Nat.le_of_ble_eq_true rfl) d_Mod_put_85 (fun u13 H locs h hw => ?_)
  refine lv_aload_n hx hb d_Mod_put_88 rfl (lv_at hl 0 rfl) ?_
  refine lv_bipush (v := 8) hx hb d_Mod_put_89 (by decide) ?_
  refine kVv (y := y_Mod_one) (ws' := fun u15 => [e_Mod a 0 Mod_width Mod_height u1.1 u15.1 Mod_bit 0 0 0, e_ar a n cI 15 mc, e_ar a n cI 16 u1.2, e_ar a n cI 17 u15.2]) (wr := [e_ar a n cI 15 mc, e_ar a n cI 16 u1.2]) (As := [.int 8]) (rest := []) E hw (c_Mod_one (l := l) (dC := dC) (dI := dI) (cI := cI) (tb := tb) (a := a) (n := n) (Mod_thrown := 0) (Mod_width := Mod_width) (Mod_height := Mod_height) (Mod_many := u1.1) (Mod_size := u13.1) (Mod_bit := Mod_bit) (Mod_single := 0) (Mod_runs := 0) (Mod_longest := 0) (mf := u13.2) (x1 := 8) h) tw516 tw518 tw22 tw44 tw519 1 (by decide) ⟨Nat.le_of_ble_eq_true rfl, Nat.le_of_ble_eq_true rfl⟩ ⟨Nat.le_of_ble_eq_true rfl, Nat.le_of_ble_eq_true rfl⟩ ⟨rfl, rfl⟩ rfl rfl 0 rfl [0, 3] [1, 2] [2, 0, 1, 3] rfl rfl rfl rfl (by decide) rfl (fun _ => rfl) hl.1 rfl rfl (Nat.le_of_ble_eq_true rfl) d_Mod_put_91 (fun u15 H locs h hw => ?_)
  refine lv_aload_n hx hb d_Mod_put_94 rfl (lv_at hl 0 rfl) ?_
  refine lv_iconst (v := 2) hx hb d_Mod_put_95 (by decide) ?_
  refine kVv (y := y_Mod_one) (ws' := fun u17 => [e_Mod a 0 Mod_width Mod_height u1.1 u17.1 Mod_bit 0 0 0, e_ar a n cI 15 mc, e_ar a n cI 16 u1.2, e_ar a n cI 17 u17.2]) (wr := [e_ar a n cI 15 mc, e_ar a n cI 16 u1.2]) (As := [.int 2]) (rest := []) E hw (c_Mod_one (l := l) (dC := dC) (dI := dI) (cI := cI) (tb := tb) (a := a) (n := n) (Mod_thrown := 0) (Mod_width := Mod_width) (Mod_height := Mod_height) (Mod_many := u1.1) (Mod_size := u15.1) (Mod_bit := Mod_bit) (Mod_single := 0) (Mod_runs := 0) (Mod_longest := 0) (mf := u15.2) (x1 := 2) h) tw516 tw518 tw22 tw44 tw519 1 (by decide) ⟨Nat.le_of_ble_eq_true rfl, Nat.le_of_ble_eq_true rfl⟩ ⟨Nat.le_of_ble_eq_true rfl, Nat.le_of_ble_eq_true rfl⟩ ⟨rfl, rfl⟩ rfl rfl 0 rfl [0, 3] [1, 2] [2, 0, 1, 3] rfl rfl rfl rfl (by decide) rfl (fun _ => rfl) hl.1 rfl rfl (Nat.le_of_ble_eq_true rfl) d_Mod_put_96 (fun u17 H locs h hw => ?_)
  refine lv_aload_n hx hb d_Mod_put_99 rfl (lv_at hl 0 rfl) ?_
  refine lv_iconst (v := 0) hx hb d_Mod_put_100 (by decide) ?_
  refine kVv (y := y_Mod_one) (ws' := fun u19 => [e_Mod a 0 Mod_width Mod_height u1.1 u19.1 Mod_bit 0 0 0, e_ar a n cI 15 mc, e_ar a n cI 16 u1.2, e_ar a n cI 17 u19.2]) (wr := [e_ar a n cI 15 mc, e_ar a n cI 16 u1.2]) (As := [.int 0]) (rest := []) E hw (c_Mod_one (l := l) (dC := dC) (dI := dI) (cI := cI) (tb := tb) (a := a) (n := n) (Mod_thrown := 0) (Mod_width := Mod_width) (Mod_height := Mod_height) (Mod_many := u1.1) (Mod_size := u17.1) (Mod_bit := Mod_bit) (Mod_single := 0) (Mod_runs := 0) (Mod_longest := 0) (mf := u17.2) (x1 := 0) h) tw516 tw518 tw22 tw44 tw519 1 (by decide) ⟨Nat.le_of_ble_eq_true rfl, Nat.le_of_ble_eq_true rfl⟩ ⟨Nat.le_of_ble_eq_true rfl, Nat.le_of_ble_eq_true rfl⟩ ⟨rfl, rfl⟩ rfl rfl 0 rfl [0, 3] [1, 2] [2, 0, 1, 3] rfl rfl rfl rfl (by decide) rfl (fun _ => rfl) hl.1 rfl rfl (Nat.le_of_ble_eq_true rfl) d_Mod_put_101 (fun u19 H locs h hw => ?_)
  refine lv_aload_n hx hb d_Mod_put_104 rfl (lv_at hl 0 rfl) ?_
  refine lv_iconst (v := 0) hx hb d_Mod_put_105 (by decide) ?_
  refine kVv (y := y_Mod_one) (ws' := fun u21 => [e_Mod a 0 Mod_width Mod_height u1.1 u21.1 Mod_bit 0 0 0, e_ar a n cI 15 mc, e_ar a n cI 16 u1.2, e_ar a n cI 17 u21.2]) (wr := [e_ar a n cI 15 mc, e_ar a n cI 16 u1.2]) (As := [.int 0]) (rest := []) E hw (c_Mod_one (l := l) (dC := dC) (dI := dI) (cI := cI) (tb := tb) (a := a) (n := n) (Mod_thrown := 0) (Mod_width := Mod_width) (Mod_height := Mod_height) (Mod_many := u1.1) (Mod_size := u19.1) (Mod_bit := Mod_bit) (Mod_single := 0) (Mod_runs := 0) (Mod_longest := 0) (mf := u19.2) (x1 := 0) h) tw516 tw518 tw22 tw44 tw519 1 (by decide) ⟨Nat.le_of_ble_eq_true rfl, Nat.le_of_ble_eq_true rfl⟩ ⟨Nat.le_of_ble_eq_true rfl, Nat.le_of_ble_eq_true rfl⟩ ⟨rfl, rfl⟩ rfl rfl 0 rfl [0, 3] [1, 2] [2, 0, 1, 3] rfl rfl rfl rfl (by decide) rfl (fun _ => rfl) hl.1 rfl rfl (Nat.le_of_ble_eq_true rfl) d_Mod_put_106 (fun u21 H locs h hw => ?_)
  refine lv_aload_n hx hb d_Mod_put_109 rfl (lv_at hl 0 rfl) ?_
  refine lv_iconst (v := 0) hx hb d_Mod_put_110 (by decide) ?_
  refine kVv (y := y_Mod_one) (ws' := fun u23 => [e_Mod a 0 Mod_width Mod_height u1.1 u23.1 Mod_bit 0 0 0, e_ar a n cI 15 mc, e_ar a n cI 16 u1.2, e_ar a n cI 17 u23.2]) (wr := [e_ar a n cI 15 mc, e_ar a n cI 16 u1.2]) (As := [.int 0]) (rest := []) E hw (c_Mod_one (l := l) (dC := dC) (dI := dI) (cI := cI) (tb := tb) (a := a) (n := n) (Mod_thrown := 0) (Mod_width := Mod_width) (Mod_height := Mod_height) (Mod_many := u1.1) (Mod_size := u21.1) (Mod_bit := Mod_bit) (Mod_single := 0) (Mod_runs := 0) (Mod_longest := 0) (mf := u21.2) (x1 := 0) h) tw516 tw518 tw22 tw44 tw519 1 (by decide) ⟨Nat.le_of_ble_eq_true rfl, Nat.le_of_ble_eq_true rfl⟩ ⟨Nat.le_of_ble_eq_true rfl, Nat.le_of_ble_eq_true rfl⟩ ⟨rfl, rfl⟩ rfl rfl 0 rfl [0, 3] [1, 2] [2, 0, 1, 3] rfl rfl rfl rfl (by decide) rfl (fun _ => rfl) hl.1 rfl rfl (Nat.le_of_ble_eq_true rfl) d_Mod_put_111 (fun u23 H locs h hw => ?_)
  refine lv_aload_n hx hb d_Mod_put_114 rfl (lv_at hl 0 rfl) ?_
  refine lv_bipush (v := 12) hx hb d_Mod_put_115 (by decide) ?_
  refine kVv (y := y_Mod_check) (ws' := fun u25 => [e_Mod a 0 Mod_width Mod_height u1.1 u25.1 Mod_bit 0 0 0, e_ar a n cI 15 mc, e_ar a n cI 16 u1.2, e_ar a n cI 17 u25.2]) (wr := [e_ar a n cI 15 mc, e_ar a n cI 16 u1.2]) (As := [.int 12]) (rest := []) E hw (c_Mod_check (l := l) (dC := dC) (dI := dI) (cI := cI) (tb := tb) (a := a) (n := n) (Mod_thrown := 0) (Mod_width := Mod_width) (Mod_height := Mod_height) (Mod_many := u1.1) (Mod_size := u23.1) (Mod_bit := Mod_bit) (Mod_single := 0) (Mod_runs := 0) (Mod_longest := 0) (mf := u23.2) (x1 := 12) h) tw524 tw526 tw24 tw44 tw527 1 (by decide) ⟨Nat.le_of_ble_eq_true rfl, Nat.le_of_ble_eq_true rfl⟩ ⟨Nat.le_of_ble_eq_true rfl, Nat.le_of_ble_eq_true rfl⟩ ⟨rfl, rfl⟩ rfl rfl 0 rfl [0, 3] [1, 2] [2, 0, 1, 3] rfl rfl rfl rfl (by decide) rfl (fun _ => rfl) hl.1 rfl rfl (Nat.le_of_ble_eq_true rfl) d_Mod_put_117 (fun u25 H locs h hw => ?_)
  refine lv_aload_n hx hb d_Mod_put_120 rfl (lv_at hl 0 rfl) ?_
  refine kget (v := .int u25.1) (T := F_Mod) E hw in_Mod rfl 0 7 rfl (by decide) tw442 rfl d_Mod_put_121 ?_
  refine lv_istore_n (lv' := [(1, .int u25.1), (0, .ref (a 7))]) hx hb d_Mod_put_124 rfl hl (by decide) rfl (fun ls hl => ?_)
  refine lv_aload_n hx hb d_Mod_put_125 rfl (lv_at hl 1 rfl) ?_
  refine lv_iconst (v := 0) hx hb d_Mod_put_126 (by decide) ?_
  refine kVv (y := y_Mod_four) (ws' := fun u27 => [e_Mod a 0 Mod_width Mod_height u1.1 u27.1 Mod_bit 0 0 0, e_ar a n cI 15 mc, e_ar a n cI 16 u1.2, e_ar a n cI 17 u27.2]) (wr := [e_ar a n cI 15 mc, e_ar a n cI 16 u1.2]) (As := [.int 0]) (rest := []) E hw (c_Mod_four (l := l) (dC := dC) (dI := dI) (cI := cI) (tb := tb) (a := a) (n := n) (Mod_thrown := 0) (Mod_width := Mod_width) (Mod_height := Mod_height) (Mod_many := u1.1) (Mod_size := u25.1) (Mod_bit := Mod_bit) (Mod_single := 0) (Mod_runs := 0) (Mod_longest := 0) (mf := u25.2) (x1 := 0) h) tw520 tw522 tw23 tw44 tw523 1 (by decide) ⟨Nat.le_of_ble_eq_true rfl, Nat.le_of_ble_eq_true rfl⟩ ⟨Nat.le_of_ble_eq_true rfl, Nat.le_of_ble_eq_true rfl⟩ ⟨rfl, rfl⟩ rfl rfl 0 rfl [0, 3] [1, 2] [2, 0, 1, 3] rfl rfl rfl rfl (by decide) rfl (fun _ => rfl) hl.1 rfl rfl (Nat.le_of_ble_eq_true rfl) d_Mod_put_127 (fun u27 H locs h hw => ?_)
  refine lv_aload_n hx hb d_Mod_put_130 rfl (lv_at hl 1 rfl) ?_
  refine lv_bipush (v := 73) hx hb d_Mod_put_131 (by decide) ?_
  refine lv_bipush (v := 68) hx hb d_Mod_put_133 (by decide) ?_
  refine lv_bipush (v := 65) hx hb d_Mod_put_135 (by decide) ?_
  refine lv_bipush (v := 84) hx hb d_Mod_put_137 (by decide) ?_
  refine kVv (y := y_Mod_name) (ws' := fun u29 => [e_Mod a 0 Mod_width Mod_height u1.1 u29.1 Mod_bit 0 0 0, e_ar a n cI 15 mc, e_ar a n cI 16 u1.2, e_ar a n cI 17 u29.2]) (wr := [e_ar a n cI 15 mc, e_ar a n cI 16 u1.2]) (As := [.int 73, .int 68, .int 65, .int 84]) (rest := []) E hw (c_Mod_name (l := l) (dC := dC) (dI := dI) (cI := cI) (tb := tb) (a := a) (n := n) (Mod_thrown := 0) (Mod_width := Mod_width) (Mod_height := Mod_height) (Mod_many := u1.1) (Mod_size := u27.1) (Mod_bit := Mod_bit) (Mod_single := 0) (Mod_runs := 0) (Mod_longest := 0) (mf := u27.2) (x1 := 73) (x2 := 68) (x3 := 65) (x4 := 84) h) tw512 tw514 tw21 tw44 tw515 4 (by decide) ⟨Nat.le_of_ble_eq_true rfl, Nat.le_of_ble_eq_true rfl⟩ ⟨Nat.le_of_ble_eq_true rfl, Nat.le_of_ble_eq_true rfl⟩ ⟨rfl, rfl⟩ rfl rfl 0 rfl [0, 3] [1, 2] [2, 0, 1, 3] rfl rfl rfl rfl (by decide) rfl (fun _ => rfl) hl.1 rfl rfl (Nat.le_of_ble_eq_true rfl) d_Mod_put_139 (fun u29 H locs h hw => ?_)
  refine lv_aload_n hx hb d_Mod_put_142 rfl (lv_at hl 1 rfl) ?_
  refine lv_bipush (v := 120) hx hb d_Mod_put_143 (by decide) ?_
  refine kVv (y := y_Mod_one) (ws' := fun u31 => [e_Mod a 0 Mod_width Mod_height u1.1 u31.1 Mod_bit 0 0 0, e_ar a n cI 15 mc, e_ar a n cI 16 u1.2, e_ar a n cI 17 u31.2]) (wr := [e_ar a n cI 15 mc, e_ar a n cI 16 u1.2]) (As := [.int 120]) (rest := []) E hw (c_Mod_one (l := l) (dC := dC) (dI := dI) (cI := cI) (tb := tb) (a := a) (n := n) (Mod_thrown := 0) (Mod_width := Mod_width) (Mod_height := Mod_height) (Mod_many := u1.1) (Mod_size := u29.1) (Mod_bit := Mod_bit) (Mod_single := 0) (Mod_runs := 0) (Mod_longest := 0) (mf := u29.2) (x1 := 120) h) tw516 tw518 tw22 tw44 tw519 1 (by decide) ⟨Nat.le_of_ble_eq_true rfl, Nat.le_of_ble_eq_true rfl⟩ ⟨Nat.le_of_ble_eq_true rfl, Nat.le_of_ble_eq_true rfl⟩ ⟨rfl, rfl⟩ rfl rfl 0 rfl [0, 3] [1, 2] [2, 0, 1, 3] rfl rfl rfl rfl (by decide) rfl (fun _ => rfl) hl.1 rfl rfl (Nat.le_of_ble_eq_true rfl) d_Mod_put_145 (fun u31 H locs h hw => ?_)
  refine lv_aload_n hx hb d_Mod_put_148 rfl (lv_at hl 1 rfl) ?_
  refine lv_iconst (v := 1) hx hb d_Mod_put_149 (by decide) ?_
  refine kVv (y := y_Mod_one) (ws' := fun u33 => [e_Mod a 0 Mod_width Mod_height u1.1 u33.1 Mod_bit 0 0 0, e_ar a n cI 15 mc, e_ar a n cI 16 u1.2, e_ar a n cI 17 u33.2]) (wr := [e_ar a n cI 15 mc, e_ar a n cI 16 u1.2]) (As := [.int 1]) (rest := []) E hw (c_Mod_one (l := l) (dC := dC) (dI := dI) (cI := cI) (tb := tb) (a := a) (n := n) (Mod_thrown := 0) (Mod_width := Mod_width) (Mod_height := Mod_height) (Mod_many := u1.1) (Mod_size := u31.1) (Mod_bit := Mod_bit) (Mod_single := 0) (Mod_runs := 0) (Mod_longest := 0) (mf := u31.2) (x1 := 1) h) tw516 tw518 tw22 tw44 tw519 1 (by decide) ⟨Nat.le_of_ble_eq_true rfl, Nat.le_of_ble_eq_true rfl⟩ ⟨Nat.le_of_ble_eq_true rfl, Nat.le_of_ble_eq_true rfl⟩ ⟨rfl, rfl⟩ rfl rfl 0 rfl [0, 3] [1, 2] [2, 0, 1, 3] rfl rfl rfl rfl (by decide) rfl (fun _ => rfl) hl.1 rfl rfl (Nat.le_of_ble_eq_true rfl) d_Mod_put_150 (fun u33 H locs h hw => ?_)
  refine lv_aload_n hx hb d_Mod_put_153 rfl (lv_at hl 1 rfl) ?_
  refine lv_iconst (v := 0) hx hb d_Mod_put_154 (by decide) ?_
  refine kput (v := .int 0) (ty := .int) (T := F_Mod) (ws' := [e_Mod a 0 Mod_width Mod_height u1.1 u33.1 0 0 0 0, e_ar a n cI 15 mc, e_ar a n cI 16 u1.2, e_ar a n cI 17 u33.2]) E hw in_Mod t_Mod t_Mod_ok n_Mod rfl 0 8 rfl (by decide) tw443 rfl rfl rfl rfl (Nat.le_of_ble_eq_true rfl) rfl d_Mod_put_155 (fun H locs hw => ?_)
  refine lv_aload_n hx hb d_Mod_put_158 rfl (lv_at hl 1 rfl) ?_
  refine kVv (y := y_Mod_pack) (ws' := fun u35 => [e_Mod a 0 Mod_width Mod_height u1.1 u35.1 u35.2.1 u35.2.2.1 u35.2.2.2.1 u35.2.2.2.2.1, e_ar a n cI 15 mc, e_ar a n cI 16 u1.2, e_ar a n cI 17 u35.2.2.2.2.2]) (wr := [e_ar a n cI 15 mc]) (As := []) (rest := []) E hw (c_Mod_pack (l := l) (dC := dC) (dI := dI) (cI := cI) (tb := tb) (a := a) (n := n) (Mod_thrown := 0) (Mod_width := Mod_width) (Mod_height := Mod_height) (Mod_many := u1.1) (Mod_size := u33.1) (Mod_bit := 0) (Mod_single := 0) (Mod_runs := 0) (Mod_longest := 0) (mr := u1.2) (mf := u33.2)  h) tw529 tw531 tw25 tw44 tw532 0 (by decide) ⟨Nat.le_of_ble_eq_true rfl, Nat.le_of_ble_eq_true rfl⟩ ⟨Nat.le_of_ble_eq_true rfl, Nat.le_of_ble_eq_true rfl⟩ ⟨rfl, rfl⟩ rfl rfl 0 rfl [0, 2, 3] [1] [1, 0, 2, 3] rfl rfl rfl rfl (by decide) rfl (fun _ => rfl) hl.1 rfl rfl (Nat.le_of_ble_eq_true rfl) d_Mod_put_159 (fun u35 H locs h hw => ?_)
  refine lv_aload_n hx hb d_Mod_put_162 rfl (lv_at hl 1 rfl) ?_
  refine kVv (y := y_Mod_sum) (ws' := fun u37 => [e_Mod a 0 Mod_width Mod_height u1.1 u37.1 u35.2.1 u35.2.2.1 u35.2.2.2.1 u35.2.2.2.2.1, e_ar a n cI 15 mc, e_ar a n cI 16 u1.2, e_ar a n cI 17 u37.2]) (wr := [e_ar a n cI 15 mc]) (As := []) (rest := []) E hw (c_Mod_sum (l := l) (dC := dC) (dI := dI) (cI := cI) (tb := tb) (a := a) (n := n) (Mod_thrown := 0) (Mod_width := Mod_width) (Mod_height := Mod_height) (Mod_many := u1.1) (Mod_size := u35.1) (Mod_bit := u35.2.1) (Mod_single := u35.2.2.1) (Mod_runs := u35.2.2.2.1) (Mod_longest := u35.2.2.2.2.1) (mr := u1.2) (mf := u35.2.2.2.2.2)  h) tw562 tw564 tw33 tw44 tw565 0 (by decide) ⟨Nat.le_of_ble_eq_true rfl, Nat.le_of_ble_eq_true rfl⟩ ⟨Nat.le_of_ble_eq_true rfl, Nat.le_of_ble_eq_true rfl⟩ ⟨rfl, rfl⟩ rfl rfl 0 rfl [0, 2, 3] [1] [1, 0, 2, 3] rfl rfl rfl rfl (by decide) rfl (fun _ => rfl) hl.1 rfl rfl (Nat.le_of_ble_eq_true rfl) d_Mod_put_163 (fun u37 H locs h hw => ?_)
  refine lv_aload_n hx hb d_Mod_put_166 rfl (lv_at hl 1 rfl) ?_
  refine kget (v := .int u37.1) (T := F_Mod) E hw in_Mod rfl 0 7 rfl (by decide) tw442 rfl d_Mod_put_167 ?_
  refine lv_iload_n hx hb d_Mod_put_170 rfl (lv_at hl 0 rfl) ?_
  refine lv_isub hx hb d_Mod_put_171 ?_
  refine lv_bipush (v := 8) hx hb d_Mod_put_172 (by decide) ?_
  refine lv_isub hx hb d_Mod_put_174 ?_
  refine lv_topi (fun z39 ez39 => ?_)
  have h := h z39 ez39
  refine lv_istore_n (lv' := [(2, .int z39), (1, .int u25.1), (0, .ref (a 7))]) hx hb d_Mod_put_175 rfl hl (by decide) rfl (fun ls hl => ?_)
  refine lv_aload_n hx hb d_Mod_put_176 rfl (lv_at hl 2 rfl) ?_
  refine kget (v := .ref (a 17)) (T := F_Mod) E hw in_Mod rfl 0 6 rfl (by decide) tw441 rfl d_Mod_put_177 ?_
  refine lv_iload_n hx hb d_Mod_put_180 rfl (lv_at hl 1 rfl) ?_
  refine lv_iconst (v := 2) hx hb d_Mod_put_181 (by decide) ?_
  refine lv_iadd hx hb d_Mod_put_182 ?_
  refine lv_iload_n hx hb d_Mod_put_183 rfl (lv_at hl 0 rfl) ?_
  refine lv_bipush (v := 8) hx hb d_Mod_put_184 (by decide) ?_
  refine lv_ishr hx hb d_Mod_put_186 ?_
  refine lv_topi (fun z40 ez40 => ?_)
  have h := h z40 ez40
  obtain ⟨b41, h⟩ := h
  obtain ⟨f42, ef42⟩ : ∃ z : Nat → Int32, z = upd u37.2 (u25.1 + 2 : Int32).toNatClampNeg z40 := ⟨_, rfl⟩
  have h := h f42 ef42
  refine kast (ws' := [e_Mod a 0 Mod_width Mod_height u1.1 u37.1 u35.2.1 u35.2.2.1 u35.2.2.2.1 u35.2.2.2.2.1, e_ar a n cI 15 mc, e_ar a n cI 16 u1.2, e_ar a n cI 17 f42]) E hw 3 rfl b41 (by rw [ef42]; rfl) d_Mod_put_187 (fun H locs hw => ?_)
  refine lv_aload_n hx hb d_Mod_put_188 rfl (lv_at hl 2 rfl) ?_
  refine kget (v := .ref (a 17)) (T := F_Mod) E hw in_Mod rfl 0 6 rfl (by decide) tw441 rfl d_Mod_put_189 ?_
  refine lv_iload_n hx hb d_Mod_put_192 rfl (lv_at hl 1 rfl) ?_
  refine lv_iconst (v := 3) hx hb d_Mod_put_193 (by decide) ?_
  refine lv_iadd hx hb d_Mod_put_194 ?_
  refine lv_iload_n hx hb d_Mod_put_195 rfl (lv_at hl 0 rfl) ?_
  refine lv_sipush (v := 255) hx hb d_Mod_put_196 (by decide) ?_
  refine lv_iand hx hb d_Mod_put_199 ?_
  refine lv_topi (fun z43 ez43 => ?_)
  have h := h z43 ez43
  obtain ⟨b44, h⟩ := h
  obtain ⟨f45, ef45⟩ : ∃ z : Nat → Int32, z = upd f42 (u25.1 + 3 : Int32).toNatClampNeg z43 := ⟨_, rfl⟩
  have h := h f45 ef45
  refine kast (ws' := [e_Mod a 0 Mod_width Mod_height u1.1 u37.1 u35.2.1 u35.2.2.1 u35.2.2.2.1 u35.2.2.2.2.1, e_ar a n cI 15 mc, e_ar a n cI 16 u1.2, e_ar a n cI 17 f45]) E hw 3 rfl b44 (by rw [ef45]; rfl) d_Mod_put_200 (fun H locs hw => ?_)
  refine lv_aload_n hx hb d_Mod_put_201 rfl (lv_at hl 2 rfl) ?_
  refine lv_iload_n hx hb d_Mod_put_202 rfl (lv_at hl 1 rfl) ?_
  refine lv_iconst (v := 4) hx hb d_Mod_put_203 (by decide) ?_
  refine lv_iadd hx hb d_Mod_put_204 ?_
  refine kVv (y := y_Mod_check) (ws' := fun u46 => [e_Mod a 0 Mod_width Mod_height u1.1 u46.1 u35.2.1 u35.2.2.1 u35.2.2.2.1 u35.2.2.2.2.1, e_ar a n cI 15 mc, e_ar a n cI 16 u1.2, e_ar a n cI 17 u46.2]) (wr := [e_ar a n cI 15 mc, e_ar a n cI 16 u1.2]) (As := [.int (u25.1 + 4)]) (rest := []) E hw (c_Mod_check (l := l) (dC := dC) (dI := dI) (cI := cI) (tb := tb) (a := a) (n := n) (Mod_thrown := 0) (Mod_width := Mod_width) (Mod_height := Mod_height) (Mod_many := u1.1) (Mod_size := u37.1) (Mod_bit := u35.2.1) (Mod_single := u35.2.2.1) (Mod_runs := u35.2.2.2.1) (Mod_longest := u35.2.2.2.2.1) (mf := f45) (x1 := u25.1 + 4) h) tw524 tw526 tw24 tw44 tw527 1 (by decide) ⟨Nat.le_of_ble_eq_true rfl, Nat.le_of_ble_eq_true rfl⟩ ⟨Nat.le_of_ble_eq_true rfl, Nat.le_of_ble_eq_true rfl⟩ ⟨rfl, rfl⟩ rfl rfl 0 rfl [0, 3] [1, 2] [2, 0, 1, 3] rfl rfl rfl rfl (by decide) rfl (fun _ => rfl) hl.1 rfl rfl (Nat.le_of_ble_eq_true rfl) d_Mod_put_205 (fun u46 H locs h hw => ?_)
  refine lv_aload_n hx hb d_Mod_put_208 rfl (lv_at hl 2 rfl) ?_
  refine lv_iconst (v := 0) hx hb d_Mod_put_209 (by decide) ?_
  refine kVv (y := y_Mod_four) (ws' := fun u48 => [e_Mod a 0 Mod_width Mod_height u1.1 u48.1 u35.2.1 u35.2.2.1 u35.2.2.2.1 u35.2.2.2.2.1, e_ar a n cI 15 mc, e_ar a n cI 16 u1.2, e_ar a n cI 17 u48.2]) (wr := [e_ar a n cI 15 mc, e_ar a n cI 16 u1.2]) (As := [.int 0]) (rest := []) E hw (c_Mod_four (l := l) (dC := dC) (dI := dI) (cI := cI) (tb := tb) (a := a) (n := n) (Mod_thrown := 0) (Mod_width := Mod_width) (Mod_height := Mod_height) (Mod_many := u1.1) (Mod_size := u46.1) (Mod_bit := u35.2.1) (Mod_single := u35.2.2.1) (Mod_runs := u35.2.2.2.1) (Mod_longest := u35.2.2.2.2.1) (mf := u46.2) (x1 := 0) h) tw520 tw522 tw23 tw44 tw523 1 (by decide) ⟨Nat.le_of_ble_eq_true rfl, Nat.le_of_ble_eq_true rfl⟩ ⟨Nat.le_of_ble_eq_true rfl, Nat.le_of_ble_eq_true rfl⟩ ⟨rfl, rfl⟩ rfl rfl 0 rfl [0, 3] [1, 2] [2, 0, 1, 3] rfl rfl rfl rfl (by decide) rfl (fun _ => rfl) hl.1 rfl rfl (Nat.le_of_ble_eq_true rfl) d_Mod_put_210 (fun u48 H locs h hw => ?_)
  refine lv_aload_n hx hb d_Mod_put_213 rfl (lv_at hl 2 rfl) ?_
  refine lv_bipush (v := 73) hx hb d_Mod_put_214 (by decide) ?_
  refine lv_bipush (v := 69) hx hb d_Mod_put_216 (by decide) ?_
  refine lv_bipush (v := 78) hx hb d_Mod_put_218 (by decide) ?_
  refine lv_bipush (v := 68) hx hb d_Mod_put_220 (by decide) ?_
  refine kVv (y := y_Mod_name) (ws' := fun u50 => [e_Mod a 0 Mod_width Mod_height u1.1 u50.1 u35.2.1 u35.2.2.1 u35.2.2.2.1 u35.2.2.2.2.1, e_ar a n cI 15 mc, e_ar a n cI 16 u1.2, e_ar a n cI 17 u50.2]) (wr := [e_ar a n cI 15 mc, e_ar a n cI 16 u1.2]) (As := [.int 73, .int 69, .int 78, .int 68]) (rest := []) E hw (c_Mod_name (l := l) (dC := dC) (dI := dI) (cI := cI) (tb := tb) (a := a) (n := n) (Mod_thrown := 0) (Mod_width := Mod_width) (Mod_height := Mod_height) (Mod_many := u1.1) (Mod_size := u48.1) (Mod_bit := u35.2.1) (Mod_single := u35.2.2.1) (Mod_runs := u35.2.2.2.1) (Mod_longest := u35.2.2.2.2.1) (mf := u48.2) (x1 := 73) (x2 := 69) (x3 := 78) (x4 := 68) h) tw512 tw514 tw21 tw44 tw515 4 (by decide) ⟨Nat.le_of_ble_eq_true rfl, Nat.le_of_ble_eq_true rfl⟩ ⟨Nat.le_of_ble_eq_true rfl, Nat.le_of_ble_eq_true rfl⟩ ⟨rfl, rfl⟩ rfl rfl 0 rfl [0, 3] [1, 2] [2, 0, 1, 3] rfl rfl rfl rfl (by decide) rfl (fun _ => rfl) hl.1 rfl rfl (Nat.le_of_ble_eq_true rfl) d_Mod_put_222 (fun u50 H locs h hw => ?_)
  refine lv_aload_n hx hb d_Mod_put_225 rfl (lv_at hl 2 rfl) ?_
  refine lv_aload_n hx hb d_Mod_put_226 rfl (lv_at hl 2 rfl) ?_
  refine kget (v := .int u50.1) (T := F_Mod) E hw in_Mod rfl 0 7 rfl (by decide) tw442 rfl d_Mod_put_227 ?_
  refine lv_iconst (v := 4) hx hb d_Mod_put_230 (by decide) ?_
  refine lv_isub hx hb d_Mod_put_231 ?_
  refine kVv (y := y_Mod_check) (ws' := fun u52 => [e_Mod a 0 Mod_width Mod_height u1.1 u52.1 u35.2.1 u35.2.2.1 u35.2.2.2.1 u35.2.2.2.2.1, e_ar a n cI 15 mc, e_ar a n cI 16 u1.2, e_ar a n cI 17 u52.2]) (wr := [e_ar a n cI 15 mc, e_ar a n cI 16 u1.2]) (As := [.int (u50.1 - 4)]) (rest := []) E hw (c_Mod_check (l := l) (dC := dC) (dI := dI) (cI := cI) (tb := tb) (a := a) (n := n) (Mod_thrown := 0) (Mod_width := Mod_width) (Mod_height := Mod_height) (Mod_many := u1.1) (Mod_size := u50.1) (Mod_bit := u35.2.1) (Mod_single := u35.2.2.1) (Mod_runs := u35.2.2.2.1) (Mod_longest := u35.2.2.2.2.1) (mf := u50.2) (x1 := u50.1 - 4) h) tw524 tw526 tw24 tw44 tw527 1 (by decide) ⟨Nat.le_of_ble_eq_true rfl, Nat.le_of_ble_eq_true rfl⟩ ⟨Nat.le_of_ble_eq_true rfl, Nat.le_of_ble_eq_true rfl⟩ ⟨rfl, rfl⟩ rfl rfl 0 rfl [0, 3] [1, 2] [2, 0, 1, 3] rfl rfl rfl rfl (by decide) rfl (fun _ => rfl) hl.1 rfl rfl (Nat.le_of_ble_eq_true rfl) d_Mod_put_232 (fun u52 H locs h hw => ?_)
  refine lv_aload_n hx hb d_Mod_put_235 rfl (lv_at hl 2 rfl) ?_
  refine kget (v := .int u52.1) (T := F_Mod) E hw in_Mod rfl 0 7 rfl (by decide) tw442 rfl d_Mod_put_236 ?_
  exact retI (out := fun u => [e_Mod a u.1 Mod_width Mod_height u.2.1 u.2.2.1 u.2.2.2.1 u.2.2.2.2.1 u.2.2.2.2.2.1 u.2.2.2.2.2.2.1, e_ar a n cI 15 mc, e_ar a n cI 16 u.2.2.2.2.2.2.2.1, e_ar a n cI 17 u.2.2.2.2.2.2.2.2]) (u := (0, u1.1, u52.1, u35.2.1, u35.2.2.1, u35.2.2.2.1, u35.2.2.2.2.1, u1.2, u52.2)) E hr hlk rfl hw h d_Mod_put_239
-- PicturePackerModel.byteAt(I)I
theorem d_Mod_byteAt_0 : decode prog_9_method_26_code 0 = .ok (.aload_n 0, 1) := by decide +kernel
theorem d_Mod_byteAt_1 : decode prog_9_method_26_code 1 = .ok (.iconst 0, 1) := by decide +kernel
theorem d_Mod_byteAt_2 : decode prog_9_method_26_code 2 = .ok (.putfield 26, 3) := by decide +kernel
theorem d_Mod_byteAt_5 : decode prog_9_method_26_code 5 = .ok (.iload_n 1, 1) := by decide +kernel
theorem d_Mod_byteAt_6 : decode prog_9_method_26_code 6 = .ok (.ifCond .lt 11, 3) := by decide +kernel
theorem d_Mod_byteAt_9 : decode prog_9_method_26_code 9 = .ok (.iload_n 1, 1) := by decide +kernel
theorem d_Mod_byteAt_10 : decode prog_9_method_26_code 10 = .ok (.aload_n 0, 1) := by decide +kernel
theorem d_Mod_byteAt_11 : decode prog_9_method_26_code 11 = .ok (.getfield 51, 3) := by decide +kernel
theorem d_Mod_byteAt_14 : decode prog_9_method_26_code 14 = .ok (.if_icmp .lt 7, 3) := by decide +kernel
theorem d_Mod_byteAt_17 : decode prog_9_method_26_code 17 = .ok (.iconst (-1), 1) := by decide +kernel
theorem d_Mod_byteAt_18 : decode prog_9_method_26_code 18 = .ok (.goto 9, 3) := by decide +kernel
theorem d_Mod_byteAt_21 : decode prog_9_method_26_code 21 = .ok (.aload_n 0, 1) := by decide +kernel
theorem d_Mod_byteAt_22 : decode prog_9_method_26_code 22 = .ok (.getfield 16, 3) := by decide +kernel
theorem d_Mod_byteAt_25 : decode prog_9_method_26_code 25 = .ok (.iload_n 1, 1) := by decide +kernel
theorem d_Mod_byteAt_26 : decode prog_9_method_26_code 26 = .ok (.iaload, 1) := by decide +kernel
theorem d_Mod_byteAt_27 : decode prog_9_method_26_code 27 = .ok (.ireturn, 1) := by decide +kernel
abbrev y_Mod_byteAt : MethodName := ⟨"PicturePackerModel", "byteAt", "(I)I"⟩
def wp_Mod_byteAt (n : Nat → Nat) (Mod_thrown : Int32) (Mod_size : Int32) (mf : Nat → Int32) (x1 : Int32) (post : Int32 → Int32 → Prop) : Prop := ((x1 : Int32) < 0 → (post ((-1)) 0)) ∧ (¬ ((x1 : Int32) < 0) → (((x1 : Int32) < Mod_size → (vp_in x1 (n 17) ∧ (post (mf (x1 : Int32).toNatClampNeg) 0))) ∧ (¬ ((x1 : Int32) < Mod_size) → (post ((-1)) 0))))
set_option maxHeartbeats 2000000 in
set_option maxRecDepth 20000 in
theorem c_Mod_byteAt {l : Launch} {dC : Nat → ClassId} {dI : Nat → Nat → Nat} {cI : ClassId} {tb a n : Nat → Nat} {Mod_thrown : Int32} {Mod_width : Int32} {Mod_height : Int32} {Mod_many : Int32} {Mod_size : Int32} {Mod_bit : Int32} {Mod_single : Int32} {Mod_runs : Int32} {Mod_longest : Int32} {mf : Nat → Int32} {x1 : Int32} {post : Int32 → Int32 → Prop} (h : wp_Mod_byteAt n Mod_thrown Mod_size mf x1 post) : CtI classes dC dI cI tb l y_Mod_byteAt prog_9_method_26_code 2 .int ({ frames := 0, cells := 0, slots := 0, locals := 0 }) [.ref (a 7), .int x1] [e_Mod a Mod_thrown Mod_width Mod_height Mod_many Mod_size Mod_bit Mod_single Mod_runs Mod_longest, e_ar a n cI 17 mf] (Int32) (fun u => [e_Mod a u Mod_width Mod_height Mod_many Mod_size Mod_bit Mod_single Mod_runs Mod_longest, e_ar a n cI 17 mf]) post := by
  refine startI (by decide) (Nat.le_of_ble_eq_true rfl) ?_
  intro p e s m below meth c ls E hr hlk hnm hl hw
  have hl : lv_has ls 2 [(0, .ref (a 7)), (1, .int x1)] := hl
  generalize va_A [e_Mod a Mod_thrown Mod_width Mod_height Mod_many Mod_size Mod_bit Mod_single Mod_runs Mod_longest, e_ar a n cI 17 mf] s.heap.size = A at hw ⊢
  obtain ⟨hx, hb, hml, hown, hts⟩ := id E
  unfold wp_Mod_byteAt at h
  refine lv_aload_n hx hb d_Mod_byteAt_0 rfl (lv_at hl 0 rfl) ?_
  refine lv_iconst (v := 0) hx hb d_Mod_byteAt_1 (by decide) ?_
  refine kput (v := .int 0) (ty := .int) (T := F_Mod) (ws' := [e_Mod a 0 Mod_width Mod_height Mod_many Mod_size Mod_bit Mod_single Mod_runs Mod_longest, e_ar a n cI 17 mf]) E hw in_Mod t_Mod t_Mod_ok n_Mod rfl 0 0 rfl (by decide) tw435 rfl rfl rfl rfl (Nat.le_of_ble_eq_true rfl) rfl d_Mod_byteAt_2 (fun H locs hw => ?_)
  refine lv_iload_n hx hb d_Mod_byteAt_5 rfl (lv_at hl 1 rfl) ?_
  refine lv_if_lt (tgt := 17) hx hb d_Mod_byteAt_6 (by decide) (fun c1 => ?_) (fun c1 => ?_)
  · have h := h.1 c1
    refine lv_iconst (v := (-1)) hx hb d_Mod_byteAt_17 (by decide) ?_
    refine lv_goto (tgt := 27) hx hb d_Mod_byteAt_18 (by decide) ?_
    exact retI (out := fun u => [e_Mod a u Mod_width Mod_height Mod_many Mod_size Mod_bit Mod_single Mod_runs Mod_longest, e_ar a n cI 17 mf]) (u := 0) E hr hlk rfl hw h d_Mod_byteAt_27
  · have h := h.2 c1
    refine lv_iload_n hx hb d_Mod_byteAt_9 rfl (lv_at hl 1 rfl) ?_
    refine lv_aload_n hx hb d_Mod_byteAt_10 rfl (lv_at hl 0 rfl) ?_
    refine kget (v := .int Mod_size) (T := F_Mod) E hw in_Mod rfl 0 7 rfl (by decide) tw442 rfl d_Mod_byteAt_11 ?_
    refine lv_icmp_lt (tgt := 21) hx hb d_Mod_byteAt_14 (by decide) (fun c2 => ?_) (fun c2 => ?_)
    · have h := h.1 c2
      refine lv_aload_n hx hb d_Mod_byteAt_21 rfl (lv_at hl 0 rfl) ?_
      refine kget (v := .ref (a 17)) (T := F_Mod) E hw in_Mod rfl 0 6 rfl (by decide) tw441 rfl d_Mod_byteAt_22 ?_
      refine lv_iload_n hx hb d_Mod_byteAt_25 rfl (lv_at hl 1 rfl) ?_
      obtain ⟨b3, h⟩ := h
      refine kald E hw 1 rfl b3 d_Mod_byteAt_26 ?_
      exact retI (out := fun u => [e_Mod a u Mod_width Mod_height Mod_many Mod_size Mod_bit Mod_single Mod_runs Mod_longest, e_ar a n cI 17 mf]) (u := 0) E hr hlk rfl hw h d_Mod_byteAt_27
    · have h := h.2 c2
      refine lv_iconst (v := (-1)) hx hb d_Mod_byteAt_17 (by decide) ?_
      refine lv_goto (tgt := 27) hx hb d_Mod_byteAt_18 (by decide) ?_
      exact retI (out := fun u => [e_Mod a u Mod_width Mod_height Mod_many Mod_size Mod_bit Mod_single Mod_runs Mod_longest, e_ar a n cI 17 mf]) (u := 0) E hr hlk rfl hw h d_Mod_byteAt_27
-- PicturePackerModel.filter(I)I
theorem d_Mod_filter_0 : decode prog_9_method_27_code 0 = .ok (.aload_n 0, 1) := by decide +kernel
theorem d_Mod_filter_1 : decode prog_9_method_27_code 1 = .ok (.iconst 0, 1) := by decide +kernel
theorem d_Mod_filter_2 : decode prog_9_method_27_code 2 = .ok (.putfield 26, 3) := by decide +kernel
theorem d_Mod_filter_5 : decode prog_9_method_27_code 5 = .ok (.aload_n 0, 1) := by decide +kernel
theorem d_Mod_filter_6 : decode prog_9_method_27_code 6 = .ok (.getfield 51, 3) := by decide +kernel
theorem d_Mod_filter_9 : decode prog_9_method_27_code 9 = .ok (.ifCond .eq 15, 3) := by decide +kernel
theorem d_Mod_filter_12 : decode prog_9_method_27_code 12 = .ok (.iload_n 1, 1) := by decide +kernel
theorem d_Mod_filter_13 : decode prog_9_method_27_code 13 = .ok (.ifCond .lt 11, 3) := by decide +kernel
theorem d_Mod_filter_16 : decode prog_9_method_27_code 16 = .ok (.iload_n 1, 1) := by decide +kernel
theorem d_Mod_filter_17 : decode prog_9_method_27_code 17 = .ok (.aload_n 0, 1) := by decide +kernel
theorem d_Mod_filter_18 : decode prog_9_method_27_code 18 = .ok (.getfield 23, 3) := by decide +kernel
theorem d_Mod_filter_21 : decode prog_9_method_27_code 21 = .ok (.if_icmp .lt 7, 3) := by decide +kernel
theorem d_Mod_filter_24 : decode prog_9_method_27_code 24 = .ok (.iconst (-1), 1) := by decide +kernel
theorem d_Mod_filter_25 : decode prog_9_method_27_code 25 = .ok (.goto 18, 3) := by decide +kernel
theorem d_Mod_filter_28 : decode prog_9_method_27_code 28 = .ok (.aload_n 0, 1) := by decide +kernel
theorem d_Mod_filter_29 : decode prog_9_method_27_code 29 = .ok (.getfield 13, 3) := by decide +kernel
theorem d_Mod_filter_32 : decode prog_9_method_27_code 32 = .ok (.iconst 1, 1) := by decide +kernel
theorem d_Mod_filter_33 : decode prog_9_method_27_code 33 = .ok (.iconst 3, 1) := by decide +kernel
theorem d_Mod_filter_34 : decode prog_9_method_27_code 34 = .ok (.aload_n 0, 1) := by decide +kernel
theorem d_Mod_filter_35 : decode prog_9_method_27_code 35 = .ok (.getfield 19, 3) := by decide +kernel
theorem d_Mod_filter_38 : decode prog_9_method_27_code 38 = .ok (.imul, 1) := by decide +kernel
theorem d_Mod_filter_39 : decode prog_9_method_27_code 39 = .ok (.iadd, 1) := by decide +kernel
theorem d_Mod_filter_40 : decode prog_9_method_27_code 40 = .ok (.iload_n 1, 1) := by decide +kernel
theorem d_Mod_filter_41 : decode prog_9_method_27_code 41 = .ok (.imul, 1) := by decide +kernel
theorem d_Mod_filter_42 : decode prog_9_method_27_code 42 = .ok (.iaload, 1) := by decide +kernel
theorem d_Mod_filter_43 : decode prog_9_method_27_code 43 = .ok (.ireturn, 1) := by decide +kernel
abbrev y_Mod_filter : MethodName := ⟨"PicturePackerModel", "filter", "(I)I"⟩
def wp_Mod_filter (n : Nat → Nat) (Mod_thrown : Int32) (Mod_width : Int32) (Mod_height : Int32) (Mod_size : Int32) (mr : Nat → Int32) (x1 : Int32) (post : Int32 → Int32 → Prop) : Prop := ((Mod_size : Int32) = 0 → (post ((-1)) 0)) ∧ (¬ ((Mod_size : Int32) = 0) → (((x1 : Int32) < 0 → (post ((-1)) 0)) ∧ (¬ ((x1 : Int32) < 0) → (((x1 : Int32) < Mod_height → (vp_in ((1 + (3 * Mod_width)) * x1) (n 16) ∧ (post (mr ((1 + (3 * Mod_width)) * x1 : Int32).toNatClampNeg) 0))) ∧ (¬ ((x1 : Int32) < Mod_height) → (post ((-1)) 0))))))
set_option maxHeartbeats 2000000 in
set_option maxRecDepth 20000 in
theorem c_Mod_filter {l : Launch} {dC : Nat → ClassId} {dI : Nat → Nat → Nat} {cI : ClassId} {tb a n : Nat → Nat} {Mod_thrown : Int32} {Mod_width : Int32} {Mod_height : Int32} {Mod_many : Int32} {Mod_size : Int32} {Mod_bit : Int32} {Mod_single : Int32} {Mod_runs : Int32} {Mod_longest : Int32} {mr : Nat → Int32} {x1 : Int32} {post : Int32 → Int32 → Prop} (h : wp_Mod_filter n Mod_thrown Mod_width Mod_height Mod_size mr x1 post) : CtI classes dC dI cI tb l y_Mod_filter prog_9_method_27_code 2 .int ({ frames := 0, cells := 0, slots := 0, locals := 0 }) [.ref (a 7), .int x1] [e_Mod a Mod_thrown Mod_width Mod_height Mod_many Mod_size Mod_bit Mod_single Mod_runs Mod_longest, e_ar a n cI 16 mr] (Int32) (fun u => [e_Mod a u Mod_width Mod_height Mod_many Mod_size Mod_bit Mod_single Mod_runs Mod_longest, e_ar a n cI 16 mr]) post := by
  refine startI (by decide) (Nat.le_of_ble_eq_true rfl) ?_
  intro p e s m below meth c ls E hr hlk hnm hl hw
  have hl : lv_has ls 2 [(0, .ref (a 7)), (1, .int x1)] := hl
  generalize va_A [e_Mod a Mod_thrown Mod_width Mod_height Mod_many Mod_size Mod_bit Mod_single Mod_runs Mod_longest, e_ar a n cI 16 mr] s.heap.size = A at hw ⊢
  obtain ⟨hx, hb, hml, hown, hts⟩ := id E
  unfold wp_Mod_filter at h
  refine lv_aload_n hx hb d_Mod_filter_0 rfl (lv_at hl 0 rfl) ?_
  refine lv_iconst (v := 0) hx hb d_Mod_filter_1 (by decide) ?_
  refine kput (v := .int 0) (ty := .int) (T := F_Mod) (ws' := [e_Mod a 0 Mod_width Mod_height Mod_many Mod_size Mod_bit Mod_single Mod_runs Mod_longest, e_ar a n cI 16 mr]) E hw in_Mod t_Mod t_Mod_ok n_Mod rfl 0 0 rfl (by decide) tw435 rfl rfl rfl rfl (Nat.le_of_ble_eq_true rfl) rfl d_Mod_filter_2 (fun H locs hw => ?_)
  refine lv_aload_n hx hb d_Mod_filter_5 rfl (lv_at hl 0 rfl) ?_
  refine kget (v := .int Mod_size) (T := F_Mod) E hw in_Mod rfl 0 7 rfl (by decide) tw442 rfl d_Mod_filter_6 ?_
  refine lv_if_eq (tgt := 24) hx hb d_Mod_filter_9 (by decide) (fun c1 => ?_) (fun c1 => ?_)
  · have h := h.1 c1
    refine lv_iconst (v := (-1)) hx hb d_Mod_filter_24 (by decide) ?_
    refine lv_goto (tgt := 43) hx hb d_Mod_filter_25 (by decide) ?_
    exact retI (out := fun u => [e_Mod a u Mod_width Mod_height Mod_many Mod_size Mod_bit Mod_single Mod_runs Mod_longest, e_ar a n cI 16 mr]) (u := 0) E hr hlk rfl hw h d_Mod_filter_43
  · have h := h.2 c1
    refine lv_iload_n hx hb d_Mod_filter_12 rfl (lv_at hl 1 rfl) ?_
    refine lv_if_lt (tgt := 24) hx hb d_Mod_filter_13 (by decide) (fun c2 => ?_) (fun c2 => ?_)
    · have h := h.1 c2
      refine lv_iconst (v := (-1)) hx hb d_Mod_filter_24 (by decide) ?_
      refine lv_goto (tgt := 43) hx hb d_Mod_filter_25 (by decide) ?_
      exact retI (out := fun u => [e_Mod a u Mod_width Mod_height Mod_many Mod_size Mod_bit Mod_single Mod_runs Mod_longest, e_ar a n cI 16 mr]) (u := 0) E hr hlk rfl hw h d_Mod_filter_43
    · have h := h.2 c2
      refine lv_iload_n hx hb d_Mod_filter_16 rfl (lv_at hl 1 rfl) ?_
      refine lv_aload_n hx hb d_Mod_filter_17 rfl (lv_at hl 0 rfl) ?_
      refine kget (v := .int Mod_height) (T := F_Mod) E hw in_Mod rfl 0 2 rfl (by decide) tw437 rfl d_Mod_filter_18 ?_
      refine lv_icmp_lt (tgt := 28) hx hb d_Mod_filter_21 (by decide) (fun c3 => ?_) (fun c3 => ?_)
      · have h := h.1 c3
        refine lv_aload_n hx hb d_Mod_filter_28 rfl (lv_at hl 0 rfl) ?_
        refine kget (v := .ref (a 16)) (T := F_Mod) E hw in_Mod rfl 0 4 rfl (by decide) tw439 rfl d_Mod_filter_29 ?_
        refine lv_iconst (v := 1) hx hb d_Mod_filter_32 (by decide) ?_
        refine lv_iconst (v := 3) hx hb d_Mod_filter_33 (by decide) ?_
        refine lv_aload_n hx hb d_Mod_filter_34 rfl (lv_at hl 0 rfl) ?_
        refine kget (v := .int Mod_width) (T := F_Mod) E hw in_Mod rfl 0 1 rfl (by decide) tw436 rfl d_Mod_filter_35 ?_
        refine lv_imul hx hb d_Mod_filter_38 ?_
        refine lv_iadd hx hb d_Mod_filter_39 ?_
        refine lv_iload_n hx hb d_Mod_filter_40 rfl (lv_at hl 1 rfl) ?_
        refine lv_imul hx hb d_Mod_filter_41 ?_
        obtain ⟨b4, h⟩ := h
        refine kald E hw 1 rfl b4 d_Mod_filter_42 ?_
        exact retI (out := fun u => [e_Mod a u Mod_width Mod_height Mod_many Mod_size Mod_bit Mod_single Mod_runs Mod_longest, e_ar a n cI 16 mr]) (u := 0) E hr hlk rfl hw h d_Mod_filter_43
      · have h := h.2 c3
        refine lv_iconst (v := (-1)) hx hb d_Mod_filter_24 (by decide) ?_
        refine lv_goto (tgt := 43) hx hb d_Mod_filter_25 (by decide) ?_
        exact retI (out := fun u => [e_Mod a u Mod_width Mod_height Mod_many Mod_size Mod_bit Mod_single Mod_runs Mod_longest, e_ar a n cI 16 mr]) (u := 0) E hr hlk rfl hw h d_Mod_filter_43
-- PicturePackerModel.count(I)I
theorem d_Mod_count_0 : decode prog_9_method_28_code 0 = .ok (.aload_n 0, 1) := by decide +kernel
theorem d_Mod_count_1 : decode prog_9_method_28_code 1 = .ok (.iconst 0, 1) := by decide +kernel
theorem d_Mod_count_2 : decode prog_9_method_28_code 2 = .ok (.putfield 26, 3) := by decide +kernel
theorem d_Mod_count_5 : decode prog_9_method_28_code 5 = .ok (.iload_n 1, 1) := by decide +kernel
theorem d_Mod_count_6 : decode prog_9_method_28_code 6 = .ok (.tableswitch 68 0 5 #[38, 43, 48, 53, 58, 63], 38) := by decide +kernel
theorem d_Mod_count_44 : decode prog_9_method_28_code 44 = .ok (.aload_n 0, 1) := by decide +kernel
theorem d_Mod_count_45 : decode prog_9_method_28_code 45 = .ok (.getfield 51, 3) := by decide +kernel
theorem d_Mod_count_48 : decode prog_9_method_28_code 48 = .ok (.ireturn, 1) := by decide +kernel
theorem d_Mod_count_49 : decode prog_9_method_28_code 49 = .ok (.aload_n 0, 1) := by decide +kernel
theorem d_Mod_count_50 : decode prog_9_method_28_code 50 = .ok (.getfield 94, 3) := by decide +kernel
theorem d_Mod_count_53 : decode prog_9_method_28_code 53 = .ok (.ireturn, 1) := by decide +kernel
theorem d_Mod_count_54 : decode prog_9_method_28_code 54 = .ok (.aload_n 0, 1) := by decide +kernel
theorem d_Mod_count_55 : decode prog_9_method_28_code 55 = .ok (.getfield 88, 3) := by decide +kernel
theorem d_Mod_count_58 : decode prog_9_method_28_code 58 = .ok (.ireturn, 1) := by decide +kernel
theorem d_Mod_count_59 : decode prog_9_method_28_code 59 = .ok (.aload_n 0, 1) := by decide +kernel
theorem d_Mod_count_60 : decode prog_9_method_28_code 60 = .ok (.getfield 91, 3) := by decide +kernel
theorem d_Mod_count_63 : decode prog_9_method_28_code 63 = .ok (.ireturn, 1) := by decide +kernel
theorem d_Mod_count_64 : decode prog_9_method_28_code 64 = .ok (.aload_n 0, 1) := by decide +kernel
theorem d_Mod_count_65 : decode prog_9_method_28_code 65 = .ok (.getfield 19, 3) := by decide +kernel
theorem d_Mod_count_68 : decode prog_9_method_28_code 68 = .ok (.ireturn, 1) := by decide +kernel
theorem d_Mod_count_69 : decode prog_9_method_28_code 69 = .ok (.aload_n 0, 1) := by decide +kernel
theorem d_Mod_count_70 : decode prog_9_method_28_code 70 = .ok (.getfield 23, 3) := by decide +kernel
theorem d_Mod_count_73 : decode prog_9_method_28_code 73 = .ok (.ireturn, 1) := by decide +kernel
theorem d_Mod_count_74 : decode prog_9_method_28_code 74 = .ok (.iconst (-1), 1) := by decide +kernel
theorem d_Mod_count_75 : decode prog_9_method_28_code 75 = .ok (.ireturn, 1) := by decide +kernel
abbrev y_Mod_count : MethodName := ⟨"PicturePackerModel", "count", "(I)I"⟩
def wp_Mod_count (n : Nat → Nat) (Mod_thrown : Int32) (Mod_width : Int32) (Mod_height : Int32) (Mod_size : Int32) (Mod_single : Int32) (Mod_runs : Int32) (Mod_longest : Int32) (x1 : Int32) (post : Int32 → Int32 → Prop) : Prop := ((x1 : Int32) = 0 → (post Mod_size 0)) ∧ ((x1 : Int32) = 1 → (post Mod_single 0)) ∧ ((x1 : Int32) = 2 → (post Mod_runs 0)) ∧ ((x1 : Int32) = 3 → (post Mod_longest 0)) ∧ ((x1 : Int32) = 4 → (post Mod_width 0)) ∧ ((x1 : Int32) = 5 → (post Mod_height 0)) ∧ (¬ (x1 : Int32) = 0 → ¬ (x1 : Int32) = 1 → ¬ (x1 : Int32) = 2 → ¬ (x1 : Int32) = 3 → ¬ (x1 : Int32) = 4 → ¬ (x1 : Int32) = 5 → (post ((-1)) 0))
set_option maxHeartbeats 2000000 in
set_option maxRecDepth 20000 in
theorem c_Mod_count {l : Launch} {dC : Nat → ClassId} {dI : Nat → Nat → Nat} {cI : ClassId} {tb a n : Nat → Nat} {Mod_thrown : Int32} {Mod_width : Int32} {Mod_height : Int32} {Mod_many : Int32} {Mod_size : Int32} {Mod_bit : Int32} {Mod_single : Int32} {Mod_runs : Int32} {Mod_longest : Int32} {x1 : Int32} {post : Int32 → Int32 → Prop} (h : wp_Mod_count n Mod_thrown Mod_width Mod_height Mod_size Mod_single Mod_runs Mod_longest x1 post) : CtI classes dC dI cI tb l y_Mod_count prog_9_method_28_code 2 .int ({ frames := 0, cells := 0, slots := 0, locals := 0 }) [.ref (a 7), .int x1] [e_Mod a Mod_thrown Mod_width Mod_height Mod_many Mod_size Mod_bit Mod_single Mod_runs Mod_longest] (Int32) (fun u => [e_Mod a u Mod_width Mod_height Mod_many Mod_size Mod_bit Mod_single Mod_runs Mod_longest]) post := by
  refine startI (by decide) (Nat.le_of_ble_eq_true rfl) ?_
  intro p e s m below meth c ls E hr hlk hnm hl hw
  have hl : lv_has ls 2 [(0, .ref (a 7)), (1, .int x1)] := hl
  generalize va_A [e_Mod a Mod_thrown Mod_width Mod_height Mod_many Mod_size Mod_bit Mod_single Mod_runs Mod_longest] s.heap.size = A at hw ⊢
  obtain ⟨hx, hb, hml, hown, hts⟩ := id E
  unfold wp_Mod_count at h
  refine lv_aload_n hx hb d_Mod_count_0 rfl (lv_at hl 0 rfl) ?_
  refine lv_iconst (v := 0) hx hb d_Mod_count_1 (by decide) ?_
  refine kput (v := .int 0) (ty := .int) (T := F_Mod) (ws' := [e_Mod a 0 Mod_width Mod_height Mod_many Mod_size Mod_bit Mod_single Mod_runs Mod_longest]) E hw in_Mod t_Mod t_Mod_ok n_Mod rfl 0 0 rfl (by decide) tw435 rfl rfl rfl rfl (Nat.le_of_ble_eq_true rfl) rfl d_Mod_count_2 (fun H locs hw => ?_)
  refine lv_iload_n hx hb d_Mod_count_5 rfl (lv_at hl 1 rfl) ?_
  by_cases c1 : (x1 : Int32) = 0
  · have h := h.1 c1
    refine lv_tableIn (tgt := 44) (off := 38) hx hb d_Mod_count_6 (by rw [c1]; decide) (by rw [c1]; decide) (by rw [c1]; decide) (by decide) ?_
    refine lv_aload_n hx hb d_Mod_count_44 rfl (lv_at hl 0 rfl) ?_
    refine kget (v := .int Mod_size) (T := F_Mod) E hw in_Mod rfl 0 7 rfl (by decide) tw442 rfl d_Mod_count_45 ?_
    exact retI (out := fun u => [e_Mod a u Mod_width Mod_height Mod_many Mod_size Mod_bit Mod_single Mod_runs Mod_longest]) (u := 0) E hr hlk rfl hw h d_Mod_count_48
  · skip
    by_cases c2 : (x1 : Int32) = 1
    · have h := h.2.1 c2
      refine lv_tableIn (tgt := 49) (off := 43) hx hb d_Mod_count_6 (by rw [c2]; decide) (by rw [c2]; decide) (by rw [c2]; decide) (by decide) ?_
      refine lv_aload_n hx hb d_Mod_count_49 rfl (lv_at hl 0 rfl) ?_
      refine kget (v := .int Mod_single) (T := F_Mod) E hw in_Mod rfl 0 9 rfl (by decide) tw444 rfl d_Mod_count_50 ?_
      exact retI (out := fun u => [e_Mod a u Mod_width Mod_height Mod_many Mod_size Mod_bit Mod_single Mod_runs Mod_longest]) (u := 0) E hr hlk rfl hw h d_Mod_count_53
    · skip
      by_cases c3 : (x1 : Int32) = 2
      · have h := h.2.2.1 c3
        refine lv_tableIn (tgt := 54) (off := 48) hx hb d_Mod_count_6 (by rw [c3]; decide) (by rw [c3]; decide) (by rw [c3]; decide) (by decide) ?_
        refine lv_aload_n hx hb d_Mod_count_54 rfl (lv_at hl 0 rfl) ?_
        refine kget (v := .int Mod_runs) (T := F_Mod) E hw in_Mod rfl 0 10 rfl (by decide) tw445 rfl d_Mod_count_55 ?_
        exact retI (out := fun u => [e_Mod a u Mod_width Mod_height Mod_many Mod_size Mod_bit Mod_single Mod_runs Mod_longest]) (u := 0) E hr hlk rfl hw h d_Mod_count_58
      · skip
        by_cases c4 : (x1 : Int32) = 3
        · have h := h.2.2.2.1 c4
          refine lv_tableIn (tgt := 59) (off := 53) hx hb d_Mod_count_6 (by rw [c4]; decide) (by rw [c4]; decide) (by rw [c4]; decide) (by decide) ?_
          refine lv_aload_n hx hb d_Mod_count_59 rfl (lv_at hl 0 rfl) ?_
          refine kget (v := .int Mod_longest) (T := F_Mod) E hw in_Mod rfl 0 11 rfl (by decide) tw446 rfl d_Mod_count_60 ?_
          exact retI (out := fun u => [e_Mod a u Mod_width Mod_height Mod_many Mod_size Mod_bit Mod_single Mod_runs Mod_longest]) (u := 0) E hr hlk rfl hw h d_Mod_count_63
        · skip
          by_cases c5 : (x1 : Int32) = 4
          · have h := h.2.2.2.2.1 c5
            refine lv_tableIn (tgt := 64) (off := 58) hx hb d_Mod_count_6 (by rw [c5]; decide) (by rw [c5]; decide) (by rw [c5]; decide) (by decide) ?_
            refine lv_aload_n hx hb d_Mod_count_64 rfl (lv_at hl 0 rfl) ?_
            refine kget (v := .int Mod_width) (T := F_Mod) E hw in_Mod rfl 0 1 rfl (by decide) tw436 rfl d_Mod_count_65 ?_
            exact retI (out := fun u => [e_Mod a u Mod_width Mod_height Mod_many Mod_size Mod_bit Mod_single Mod_runs Mod_longest]) (u := 0) E hr hlk rfl hw h d_Mod_count_68
          · skip
            by_cases c6 : (x1 : Int32) = 5
            · have h := h.2.2.2.2.2.1 c6
              refine lv_tableIn (tgt := 69) (off := 63) hx hb d_Mod_count_6 (by rw [c6]; decide) (by rw [c6]; decide) (by rw [c6]; decide) (by decide) ?_
              refine lv_aload_n hx hb d_Mod_count_69 rfl (lv_at hl 0 rfl) ?_
              refine kget (v := .int Mod_height) (T := F_Mod) E hw in_Mod rfl 0 2 rfl (by decide) tw437 rfl d_Mod_count_70 ?_
              exact retI (out := fun u => [e_Mod a u Mod_width Mod_height Mod_many Mod_size Mod_bit Mod_single Mod_runs Mod_longest]) (u := 0) E hr hlk rfl hw h d_Mod_count_73
            · skip
              have h := h.2.2.2.2.2.2 c1 c2 c3 c4 c5 c6
              have qc1 := lv_neT c1 (a := 0) (by decide)
              have qc2 := lv_neT c2 (a := 1) (by decide)
              have qc3 := lv_neT c3 (a := 2) (by decide)
              have qc4 := lv_neT c4 (a := 3) (by decide)
              have qc5 := lv_neT c5 (a := 4) (by decide)
              have qc6 := lv_neT c6 (a := 5) (by decide)
              refine lv_tableOut (tgt := 74) hx hb d_Mod_count_6 (by omega) (by decide) ?_
              refine lv_iconst (v := (-1)) hx hb d_Mod_count_74 (by decide) ?_
              exact retI (out := fun u => [e_Mod a u Mod_width Mod_height Mod_many Mod_size Mod_bit Mod_single Mod_runs Mod_longest]) (u := 0) E hr hlk rfl hw h d_Mod_count_75
end
