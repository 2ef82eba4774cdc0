/-! The tables' words that may be handed on, the classes, and one world: rows of ours over the kit's -/
def TBL : List Cond := lw_tbl.filter goodWord
theorem tb_good : ∀ w ∈ TBL, (w.onTables && w.keeps) = true ∨ ∃ ty, w = .arrayClass ty := fun w h => good_of_word (List.mem_filter.mp h).2
theorem tb_in {w : Cond} (k : Nat) (h : lw_tbl[k]? = some w) (hg : goodWord w = true) : w ∈ TBL := List.mem_filter.mpr ⟨List.mem_of_getElem? h, hg⟩
theorem tb_of {args : Array Value} {s : State} (h : ∀ w ∈ lw_tbl, w.before args s = true) : ∀ w ∈ TBL, w.before args s = true := fun w hw => h w (List.mem_filter.mp hw).1
theorem tb_gd {c0 : Cond} {ws : List Cond} (h : ∀ w ∈ ws, w ∈ TBL) : GoodIn (c0 :: TBL) ws := fun w hw => ⟨List.mem_cons_of_mem _ (h w hw), tb_good w (h w hw)⟩
theorem tb_gd0 {ws : List Cond} (h : ∀ w ∈ ws, w ∈ TBL) : GoodIn TBL ws := fun w hw => ⟨h w hw, tb_good w (h w hw)⟩
/-- arrays that nobody writes: where they are, how long, what they hold (0, 1, 3: the class's three written-out tables; 2: the script) -/
abbrev Tbs : Type := Nat → Nat × Nat × (Nat → Int32)
def Stc (tb : Tbs) (A : Nat → Prop) (U : State) (H : Heap) : Prop := (va_Z "PicturePacker" "SIGNATURE" "[I" (.ref (tb 0).1) A U H ∧ va_Z "PicturePacker" "HEADER_END" "[I" (.ref (tb 1).1) A U H ∧ va_Z "PicturePacker" "DATA_START" "[I" (.ref (tb 3).1) A U H) ∧ ∀ k : Nat, k < 4 → va_T .int (tb k).1 (tb k).2.1 (fun j => .int ((tb k).2.2 j)) A U H
theorem Stc.moved {tb : Tbs} {A : Nat → Prop} {u U : State} {H : Heap} (hvm : u.vm.Alike U.vm) (h : Stc tb A u H) : Stc tb A U H := ⟨⟨h.1.1.moved hvm, h.1.2.1.moved hvm, h.1.2.2.moved hvm⟩, fun k hk => (h.2 k hk).moved hvm⟩
theorem Stc.kept {tb : Tbs} {A : Nat → Prop} {U : State} {H H1 : Heap} (h : Stc tb A U H) (hq : ∀ a : Nat, a < H.size → ¬ A a → H1[a]? = H[a]?) : Stc tb A U H1 := ⟨⟨h.1.1.kept hq, h.1.2.1.kept hq, h.1.2.2.kept hq⟩, fun k hk => (h.2 k hk).kept hq⟩
theorem Stc.narrow {tb : Tbs} {A B : Nat → Prop} {U : State} {H : Heap} (h : Stc tb A U H) (hAB : ∀ q, B q → A q) : Stc tb B U H := ⟨⟨h.1.1.narrow hAB, h.1.2.1.narrow hAB, h.1.2.2.narrow hAB⟩, fun k hk => (h.2 k hk).narrow hAB⟩
section KB
variable (cl : List vw_C) (dC : Nat → ClassId) (dI : Nat → Nat → Nat) (cI : ClassId) (tb : Tbs)
/-- a method's start: its world's cells, apart -/
def Pre0 (w : va_W) (sz : Nat) (U : State) : Prop := U.heap.size = sz ∧ va_P (dC, dI) cl w U.heap ∧ va_K (dC, dI) cl [(cI, .int)] U ∧ va_D (fun _ => True) w ∧ Stc tb (va_A w sz) U U.heap
/-- a method's end -/
def End0 (A : Nat → Prop) (w : va_W) (t : State) : Prop := va_P (dC, dI) cl w t.heap ∧ va_K (dC, dI) cl [(cI, .int)] t ∧ va_D A w
/-- the world in the middle of a walk -/
def Wl (A : Nat → Prop) (s : State) (H : Heap) (locs : List Loc) (w : va_W) : Prop := va_K (dC, dI) cl [(cI, .int)] s ∧ va_P (dC, dI) cl w H ∧ va_D A w ∧ va_S A s.heap H locs ∧ (∀ q : Nat, s.heap.size ≤ q → A q) ∧ Stc tb A s s.heap
/-- contracts: a method without an answer, one that answers an int (or a boolean) -/
def CtV (l : Launch) (y : MethodName) (cc : ByteArray) (maxL : Nat) (rm : Room) (as : List Value) (w : va_W) (S : Type) (out : S → va_W) (post : S → Prop) : Prop :=
  ∀ sz : Nat, Met l y (.code y cc maxL none :: TBL) rm (va_Pc as (Pre0 cl dC dI cI tb w sz)) (va_Qv post (fun u => End0 cl dC dI cI (va_A w sz) (out u)) (va_A w sz)) rm.cells rm.slots (va_A w sz)
def CtI (l : Launch) (y : MethodName) (cc : ByteArray) (maxL : Nat) (ty : FieldType) (rm : Room) (as : List Value) (w : va_W) (S : Type) (out : S → va_W) (post : Int32 → S → Prop) : Prop :=
  ∀ sz : Nat, Met l y (.code y cc maxL (some ty) :: TBL) rm (va_Pc as (Pre0 cl dC dI cI tb w sz)) (va_Qi post (fun u => End0 cl dC dI cI (va_A w sz) (out u)) (va_A w sz)) rm.cells rm.slots (va_A w sz)
variable {cl dC dI cI tb}
theorem blind0 {as : List Value} {w : va_W} {sz : Nat} : FrameBlind (va_Pc as (Pre0 cl dC dI cI tb w sz)) := fun a U g mk q => by
  obtain ⟨q0, q1, qP, qK, qD, qT⟩ := q
  exact ⟨q0, q1, qP, va_K.moved (u := U) (U := U.calling g mk a) (Vm.Alike.refl U.vm) qK, qD, Stc.moved (u := U) (U := U.calling g mk a) (Vm.Alike.refl U.vm) qT⟩
variable {l : Launch} {y : MethodName} {cc : ByteArray} {maxL : Nat} {rm : Room} {as : List Value} {w : va_W} {S : Type} {out : S → va_W}
theorem startV {post : S → Prop} (hy : plainName y.cls = true) (hlen : (lg_sl as).length ≤ maxL)
    (body : ∀ (p : Program) (e : Env) (s : State) (m : MethodId) (below : List Frame) (meth : Method) (c : Code) (ls : Array Slot), CallFix p m c cc maxL s as.toArray TBL y.cls → meth.sig.returnType = none → meth.locks = false → meth.name = y.name → lv_has ls maxL (lv_args 0 as) → Wl cl dC dI cI tb (va_A w s.heap.size) s s.heap [] w →
      W p l e rm s m as.toArray below meth c s.heap [] 0 0 (MQ below (va_Qv post (fun u => End0 cl dC dI cI (va_A w s.heap.size) (out u)) (va_A w s.heap.size)) as.toArray s rm.cells rm.slots (va_A w s.heap.size)) (F0 m 0 ls [])) : CtV cl dC dI cI tb l y cc maxL rm as w S out post := by
  intro sz
  refine Met.ofW (cc := cc) (maxL := maxL) (ret := none) hy rfl ?_
  intro p e s m args below meth c s₁ B hml hv
  obtain ⟨rfl, hsz, hP, hK, hD0, hT0⟩ := hv
  subst hsz
  have hts := atoms_spec (ws := .code y cc maxL none :: TBL) B.pre
  rw [lg_entry_eq]
  exact body p e s m below meth c _ ⟨B.exec, B.bytes, hml, findClass_of_methodNamed B.named, fun w hw => hts w (List.mem_cons_of_mem _ hw)⟩ B.returns B.notSynchronized (name_of_methodNamed B.named B.method).1 (lv_entry as hlen) ⟨hK, hP, hD0.self, va_S.rf, fun q h => Or.inr h, hT0⟩
theorem startI {ty : FieldType} {post : Int32 → S → Prop} (hy : plainName y.cls = true) (hlen : (lg_sl as).length ≤ maxL)
    (body : ∀ (p : Program) (e : Env) (s : State) (m : MethodId) (below : List Frame) (meth : Method) (c : Code) (ls : Array Slot), CallFix p m c cc maxL s as.toArray TBL y.cls → meth.sig.returnType = some ty → meth.locks = false → meth.name = y.name → lv_has ls maxL (lv_args 0 as) → Wl cl dC dI cI tb (va_A w s.heap.size) s s.heap [] w →
      W p l e rm s m as.toArray below meth c s.heap [] 0 0 (MQ below (va_Qi post (fun u => End0 cl dC dI cI (va_A w s.heap.size) (out u)) (va_A w s.heap.size)) as.toArray s rm.cells rm.slots (va_A w s.heap.size)) (F0 m 0 ls [])) : CtI cl dC dI cI tb l y cc maxL ty rm as w S out post := by
  intro sz
  refine Met.ofW (cc := cc) (maxL := maxL) (ret := some ty) hy rfl ?_
  intro p e s m args below meth c s₁ B hml hv
  obtain ⟨rfl, hsz, hP, hK, hD0, hT0⟩ := hv
  subst hsz
  have hts := atoms_spec (ws := .code y cc maxL (some ty) :: TBL) B.pre
  rw [lg_entry_eq]
  exact body p e s m below meth c _ ⟨B.exec, B.bytes, hml, findClass_of_methodNamed B.named, fun w hw => hts w (List.mem_cons_of_mem _ hw)⟩ B.returns B.notSynchronized (name_of_methodNamed B.named B.method).1 (lv_entry as hlen) ⟨hK, hP, hD0.self, va_S.rf, fun q h => Or.inr h, hT0⟩
variable {p : Program} {e : Env} {R : Room} {s : State} {m : MethodId} {args : Array Value} {below : List Frame} {meth : Method} {c : Code} {H : Heap} {locs : List Loc} {cells slots : Nat} {Q : State → Prop} {nL pc : Nat} {ls : Array Slot} {own : String} {A : Nat → Prop} {ws : va_W} {rest : List Value}
theorem retV {post : S → Prop} {u : S} (E : CallFix p m c cc nL s args TBL own) (hr : meth.sig.returnType = none) (hlk : meth.locks = false) (hw : Wl cl dC dI cI tb A s H locs (out u)) (hp : post u) (hdg : decode cc pc = .ok (.return_, 1)) :
    W p l e R s m args below meth c H locs cells slots (MQ below (va_Qv post (fun u => End0 cl dC dI cI A (out u)) A) args s cells slots A) (F0 m pc ls []) :=
  W.vret E.1 E.2.1 hr (fun t ht hW => ⟨⟨u, rfl, hp, by rw [ht]; exact hw.2.1, va_K.moved hW.alike hw.1, hw.2.2.1⟩, hw.2.2.2.1.F ht⟩) hw.2.2.2.1.2.2 hdg hlk
theorem retI {ty : FieldType} {post : Int32 → S → Prop} {u : S} {v : Int32} (E : CallFix p m c cc nL s args TBL own) (hr : meth.sig.returnType = some ty) (hlk : meth.locks = false) (hn : narrow ty (.int v) = .int v) (hw : Wl cl dC dI cI tb A s H locs (out u)) (hp : post v u) (hdg : decode cc pc = .ok (.ireturn, 1)) :
    W p l e R s m args below meth c H locs cells slots (MQ below (va_Qi post (fun u => End0 cl dC dI cI A (out u)) A) args s cells slots A) (F0 m pc ls [.int v]) :=
  W.zret E.1 E.2.1 hr hn (fun t ht hW => ⟨⟨v, u, rfl, hp, by rw [ht]; exact hw.2.1, va_K.moved hW.alike hw.1, hw.2.2.1⟩, hw.2.2.2.1.F ht⟩) hw.2.2.2.1.2.2 hdg hlk
/-- fields -/
theorem kget {C : String} {T : u_T} {N ci index a : Nat} {fs : List Value} {v : Value} (E : CallFix p m c cc nL s args TBL own) (hw : Wl cl dC dI cI tb A s H locs ws) (hin : ∀ w ∈ u_ws C T N, w ∈ TBL) (hc : cl[ci]? = some (C, T, N)) (q0 k : Nat) (he : ws[q0]? = some (a, .inr (ci, fs))) (hk : k < N) (hlink : Cond.fieldLink own index (T k).1 (T k).2.1 (T k).2.2.1 ∈ TBL) (hv : fs[k]? = some v) (hdg : decode cc pc = .ok (.getfield index, 3))
    (kk : W p l e R s m args below meth c H locs cells slots Q (F0 m (pc + 3) ls (v :: rest))) : W p l e R s m args below meth c H locs cells slots Q (F0 m pc ls (.ref a :: rest)) :=
  va_get E.1 E.2.1 E.2.2.2.2 hin E.2.2.2.1 hw.1 hw.2.1 q0 he hc k hk (E.2.2.2.2 _ hlink) (fun _ h => h) hv hdg kk
theorem kput {C : String} {T : u_T} {N ci index a : Nat} {fs : List Value} {v : Value} {ty : FieldType} {ws' : va_W} (E : CallFix p m c cc nL s args TBL own) (hw : Wl cl dC dI cI tb A s H locs ws) (hin : ∀ w ∈ u_ws C T N, w ∈ TBL) (ty0 : Nat → FieldType) (hty : ∀ k, k < N → parseFieldDescriptor (T k).2.2.1 = some (ty0 k)) (hnm : ∀ a, a < N → ∀ b, b < N → a ≠ b → (T a).2.1 ≠ (T b).2.1) (hc : cl[ci]? = some (C, T, N)) (q0 k : Nat) (he : ws[q0]? = some (a, .inr (ci, fs))) (hk : k < N) (hlink : Cond.fieldLink own index (T k).1 (T k).2.1 (T k).2.2.1 ∈ TBL) (hfin : (T k).2.2.2 = false) (hd : ty0 k = ty) (hn : narrow ty v = v) (hfit : fits ty v = true) (hl : k < fs.length) (hws : ws.set q0 (a, .inr (ci, fs.set k v)) = ws') (hdg : decode cc pc = .ok (.putfield index, 3))
    (kk : ∀ (H1 : Heap) (locs1 : List Loc), Wl cl dC dI cI tb A s H1 locs1 ws' → W p l e R s m args below meth c H1 locs1 cells slots Q (F0 m (pc + 3) ls rest)) : W p l e R s m args below meth c H locs cells slots Q (F0 m pc ls (v :: .ref a :: rest)) :=
  va_put E.1 E.2.1 E.2.2.2.2 hin ty0 hty hnm E.2.2.2.1 hw.1 hw.2.1 hw.2.2.1 hw.2.2.2.1 q0 he hc k hk (E.2.2.2.2 _ hlink) (fun _ h => h) hfin (by rw [hty k hk, hd]) hn hfit hl hdg (fun H1 locs1 hP hD hS => kk H1 locs1 ⟨hw.1, hws ▸ hP, hws ▸ hD, hS, hw.2.2.2.2⟩)
theorem kputF {C : String} {T : u_T} {N ci index a : Nat} {fs : List Value} {v : Value} {ty : FieldType} {ws' : va_W} (E : CallFix p m c cc nL s args TBL own) (hw : Wl cl dC dI cI tb A s H locs ws) (hin : ∀ w ∈ u_ws C T N, w ∈ TBL) (ty0 : Nat → FieldType) (hty : ∀ k, k < N → parseFieldDescriptor (T k).2.2.1 = some (ty0 k)) (hnm : ∀ a, a < N → ∀ b, b < N → a ≠ b → (T a).2.1 ≠ (T b).2.1) (hc : cl[ci]? = some (C, T, N)) (q0 k : Nat) (he : ws[q0]? = some (a, .inr (ci, fs))) (hk : k < N) (hlink : Cond.fieldLink own index (T k).1 (T k).2.1 (T k).2.2.1 ∈ TBL) (hfin : (T k).2.2.2 = true) (hi : meth.name = "<init>") (hdecl : (T k).1 = own) (hd : ty0 k = ty) (hn : narrow ty v = v) (hfit : fits ty v = true) (hl : k < fs.length) (hws : ws.set q0 (a, .inr (ci, fs.set k v)) = ws') (hdg : decode cc pc = .ok (.putfield index, 3))
    (kk : ∀ (H1 : Heap) (locs1 : List Loc), Wl cl dC dI cI tb A s H1 locs1 ws' → W p l e R s m args below meth c H1 locs1 cells slots Q (F0 m (pc + 3) ls rest)) : W p l e R s m args below meth c H locs cells slots Q (F0 m pc ls (v :: .ref a :: rest)) :=
  va_putF E.1 E.2.1 E.2.2.2.2 hin ty0 hty hnm E.2.2.2.1 hw.1 hw.2.1 hw.2.2.1 hw.2.2.2.1 q0 he hc k hk (E.2.2.2.2 _ hlink) (fun _ h => h) hfin hi hdecl (by rw [hty k hk, hd]) hn hfit hl hdg (fun H1 locs1 hP hD hS => kk H1 locs1 ⟨hw.1, hws ▸ hP, hws ▸ hD, hS, hw.2.2.2.2⟩)
/-- arrays of ints -/
theorem kald {a n : Nat} {f : Nat → Int32} {i : Int32} (E : CallFix p m c cc nL s args TBL own) (hw : Wl cl dC dI cI tb A s H locs ws) (q0 : Nat) (ha : ws[q0]? = some (a, .inl (cI, n, .inl f))) (hin : vp_in i n) (hdg : decode cc pc = .ok (.iaload, 1))
    (kk : W p l e R s m args below meth c H locs cells slots Q (F0 m (pc + 1) ls (.int (f i.toNatClampNeg) :: rest))) : W p l e R s m args below meth c H locs cells slots Q (F0 m pc ls (.int i :: .ref a :: rest)) :=
  va_iald E.1 E.2.1 hw.1 hw.2.1 q0 0 ha rfl hin hdg kk
theorem kast {a n : Nat} {f : Nat → Int32} {i x : Int32} {ws' : va_W} (E : CallFix p m c cc nL s args TBL own) (hw : Wl cl dC dI cI tb A s H locs ws) (q0 : Nat) (ha : ws[q0]? = some (a, .inl (cI, n, .inl f))) (hin : vp_in i n) (hws : ws.set q0 (a, .inl (cI, n, .inl (upd f i.toNatClampNeg x))) = ws') (hdg : decode cc pc = .ok (.iastore, 1))
    (kk : ∀ (H1 : Heap) (locs1 : List Loc), Wl cl dC dI cI tb A s H1 locs1 ws' → W p l e R s m args below meth c H1 locs1 cells slots Q (F0 m (pc + 1) ls rest)) : W p l e R s m args below meth c H locs cells slots Q (F0 m pc ls (.int x :: .int i :: .ref a :: rest)) :=
  va_iast E.1 E.2.1 hw.1 hw.2.1 hw.2.2.1 hw.2.2.2.1 q0 0 ha rfl hin hdg (fun H1 locs1 hP hD hS => kk H1 locs1 ⟨hw.1, hws ▸ hP, hws ▸ hD, hS, hw.2.2.2.2⟩)
theorem kalen {a n : Nat} {f : Nat → Int32} (E : CallFix p m c cc nL s args TBL own) (hw : Wl cl dC dI cI tb A s H locs ws) (q0 : Nat) (ha : ws[q0]? = some (a, .inl (cI, n, .inl f))) (hdg : decode cc pc = .ok (.arraylength, 1))
    (kk : W p l e R s m args below meth c H locs cells slots Q (F0 m (pc + 1) ls (.int (nI n) :: rest))) : W p l e R s m args below meth c H locs cells slots Q (F0 m pc ls (.ref a :: rest)) :=
  va_alen E.1 E.2.1 hw.1 hw.2.1 q0 0 ha rfl rfl hdg kk
/-- the tables -/
theorem kgs0 {index : Nat} (E : CallFix p m c cc nL s args TBL own) (hw : Wl cl dC dI cI tb A s H locs ws) (hlink : Cond.fieldLink own index "PicturePacker" "SIGNATURE" "[I" ∈ TBL) (hdg : decode cc pc = .ok (.getstatic index, 3))
    (kk : W p l e R s m args below meth c H locs cells slots Q (F0 m (pc + 3) ls (.ref (tb 0).1 :: rest))) : W p l e R s m args below meth c H locs cells slots Q (F0 m pc ls rest) :=
  va_gets E.1 E.2.1 hw.2.2.2.2.2.1.1 hw.2.2.2.1 E.2.2.2.1 (E.2.2.2.2 _ hlink) (fun _ h => h) hdg kk
theorem kgs1 {index : Nat} (E : CallFix p m c cc nL s args TBL own) (hw : Wl cl dC dI cI tb A s H locs ws) (hlink : Cond.fieldLink own index "PicturePacker" "HEADER_END" "[I" ∈ TBL) (hdg : decode cc pc = .ok (.getstatic index, 3))
    (kk : W p l e R s m args below meth c H locs cells slots Q (F0 m (pc + 3) ls (.ref (tb 1).1 :: rest))) : W p l e R s m args below meth c H locs cells slots Q (F0 m pc ls rest) :=
  va_gets E.1 E.2.1 hw.2.2.2.2.2.1.2.1 hw.2.2.2.1 E.2.2.2.1 (E.2.2.2.2 _ hlink) (fun _ h => h) hdg kk
theorem kgs3 {index : Nat} (E : CallFix p m c cc nL s args TBL own) (hw : Wl cl dC dI cI tb A s H locs ws) (hlink : Cond.fieldLink own index "PicturePacker" "DATA_START" "[I" ∈ TBL) (hdg : decode cc pc = .ok (.getstatic index, 3))
    (kk : W p l e R s m args below meth c H locs cells slots Q (F0 m (pc + 3) ls (.ref (tb 3).1 :: rest))) : W p l e R s m args below meth c H locs cells slots Q (F0 m pc ls rest) :=
  va_gets E.1 E.2.1 hw.2.2.2.2.2.1.2.2 hw.2.2.2.1 E.2.2.2.1 (E.2.2.2.2 _ hlink) (fun _ h => h) hdg kk
theorem ktlen {K : Nat} (E : CallFix p m c cc nL s args TBL own) (hw : Wl cl dC dI cI tb A s H locs ws) (hK2 : K < 4) (hdg : decode cc pc = .ok (.arraylength, 1))
    (kk : W p l e R s m args below meth c H locs cells slots Q (F0 m (pc + 1) ls (.int (nI (tb K).2.1) :: rest))) : W p l e R s m args below meth c H locs cells slots Q (F0 m pc ls (.ref (tb K).1 :: rest)) :=
  va_tlen E.1 E.2.1 (hw.2.2.2.2.2.2 K hK2) hw.2.2.2.1 rfl hdg kk
theorem ktld {K : Nat} {i : Int32} (E : CallFix p m c cc nL s args TBL own) (hw : Wl cl dC dI cI tb A s H locs ws) (hK2 : K < 4) (hin : vp_in i (tb K).2.1) (hdg : decode cc pc = .ok (.iaload, 1))
    (kk : W p l e R s m args below meth c H locs cells slots Q (F0 m (pc + 1) ls (.int ((tb K).2.2 i.toNatClampNeg) :: rest))) : W p l e R s m args below meth c H locs cells slots Q (F0 m pc ls (.int i :: .ref (tb K).1 :: rest)) :=
  va_ti E.1 E.2.1 (hw.2.2.2.2.2.2 K hK2) hw.2.2.2.1 hin rfl hdg kk
/-- what is made -/
theorem knewa {z : Int32} (B : Nat) (E : CallFix p m c cc nL s args TBL own) (hw : Wl cl dC dI cI tb A s H locs ws) (harr : Cond.arrayClass .int ∈ TBL) (hn : ¬ z < 0) (hB : z.toNatClampNeg ≤ B) (hB2 : B * 4 ≤ 536870912) (hc : cells + 1 ≤ R.cells) (hs : slots + B ≤ R.slots) (hdg : decode cc pc = .ok (.newarray .int, 2))
    (kk : ∀ (q : Nat) (H1 : Heap), Wl cl dC dI cI tb A s H1 locs (ws ++ [(q, .inl (cI, z.toNatClampNeg, .inl (fun _ => 0)))]) → W p l e R s m args below meth c H1 locs (cells + 1) (slots + B) Q (F0 m (pc + 2) ls (.ref q :: rest))) : W p l e R s m args below meth c H locs cells slots Q (F0 m pc ls (.int z :: rest)) := by
  refine va_newa (atype := .int) (ty := .int) (N' := z.toNatClampNeg) (a0 := (z.toNatClampNeg, .inl (fun _ => 0))) E.1 E.2.1 (E.2.2.2.2 _ harr) rfl hw.1 hw.2.1 hw.2.2.1 hw.2.2.2.1 hw.2.2.2.2.1 (fun _ => rfl) hn rfl (Nat.le_trans (Nat.mul_le_mul_right 4 hB) hB2) hc (by omega) hdg (fun q cA H1 hK hP hD hS => ?_)
  have h1 : s.vm.findClass ("[" ++ (FieldType.int).toString) = some cI := (hw.1.2 0 _ rfl).2
  have h2 : s.vm.findClass ("[" ++ (FieldType.int).toString) = some cA := (hK.2 1 _ rfl).2
  have h3 : cI = cA := Option.some.inj (h1.symm.trans h2)
  subst h3
  exact W.widen (Nat.le_refl _) (by omega) (kk q H1 ⟨hw.1, hP, hD, hS, hw.2.2.2.2⟩)
theorem knew {C : String} {T : u_T} {N ci index : Nat} {fs : List Value} (E : CallFix p m c cc nL s args TBL own) (hw : Wl cl dC dI cI tb A s H locs ws) (hin : ∀ w ∈ u_ws C T N, w ∈ TBL) (ty0 : Nat → FieldType) (hty : ∀ k, k < N → parseFieldDescriptor (T k).2.2.1 = some (ty0 k)) (hc : cl[ci]? = some (C, T, N)) (h1 : Cond.classLink own index C ∈ TBL) (h2 : Cond.instantiable C N ∈ TBL) (h3 : Cond.initialized C ∈ TBL) (hfs : ∀ j, j < N → defaultValue (ty0 j) = vp_V fs j) (hcr : cells + 1 ≤ R.cells) (hsr : slots + N ≤ R.slots) (hdg : decode cc pc = .ok (.new index, 3))
    (kk : ∀ (q : Nat) (H1 : Heap), Wl cl dC dI cI tb A s H1 locs (ws ++ [(q, .inr (ci, fs))]) → W p l e R s m args below meth c H1 locs (cells + 1) (slots + N) Q (F0 m (pc + 3) ls (.ref q :: rest))) : W p l e R s m args below meth c H locs cells slots Q (F0 m pc ls rest) :=
  va_new E.1 E.2.1 E.2.2.2.2 hin ty0 hty E.2.2.2.1 (E.2.2.2.2 _ h1) (E.2.2.2.2 _ h2) (E.2.2.2.2 _ h3) hw.1 hw.2.1 hw.2.2.1 hw.2.2.2.1 hw.2.2.2.2.1 hc hfs hcr hsr hdg (fun q H1 hP hD hS => kk q H1 ⟨hw.1, hP, hD, hS, hw.2.2.2.2⟩)
theorem kobj {index a : Nat} (E : CallFix p m c cc nL s args TBL own) (hn : ls.size = nL) (h1 : Cond.methodLink own index Lib.objectInit ∈ TBL) (h2 : Cond.instanceMethod Lib.objectInit ∈ TBL) (h3 : Cond.code Lib.objectInit ⟨#[0xb1]⟩ 1 none ∈ TBL) (hf : 1 ≤ R.frames) (hlo : (rest.map fun v => v.category).sum + 12 ≤ R.locals) (hdg : decode cc pc = .ok (.invokespecial index, 3))
    (kk : W p l e R s m args below meth c H locs cells slots Q (F0 m (pc + 3) ls rest)) : W p l e R s m args below meth c H locs cells slots Q (F0 m pc ls (.ref a :: rest)) :=
  W.objInit E.1 E.2.1 E.2.2.2.1 (E.2.2.2.2 _ h1) (E.2.2.2.2 _ h2) (E.2.2.2.2 _ h3) rfl (by rw [E.2.2.1]; exact hn) rfl hdg hf (by show 2 * 0 + _ + 12 ≤ _; omega) kk
/-- Math -/
theorem kmax {index : Nat} {x y : Int32} (E : CallFix p m c cc nL s args TBL own) (hn : ls.size = nL) (hlink : Cond.methodLink own index Lib.Math.max.name ∈ TBL) (hst : Cond.static Lib.Math.max.name ∈ TBL) (hini : Cond.initialized "java/lang/Math" ∈ TBL) (hcode : Cond.code Lib.Math.max.name Lib.Math.max.code 2 (some .int) ∈ TBL) (hf : 1 ≤ R.frames) (hlo : (rest.map fun v => v.category).sum + 13 ≤ R.locals) (hc : cells ≤ R.cells) (hs : slots ≤ R.slots) (hdg : decode cc pc = .ok (.invokestatic index, 3))
    (kk : W p l e R s m args below meth c H locs cells slots Q (F0 m (pc + 3) ls (.int (if x < y then y else x) :: rest))) : W p l e R s m args below meth c H locs cells slots Q (F0 m pc ls (.int y :: .int x :: rest)) :=
  va_mmax E.1 E.2.1 (by rw [E.2.2.1, hn]) E.2.2.2.1 (E.2.2.2.2 _ hlink) (E.2.2.2.2 _ hst) (E.2.2.2.2 _ hini) (E.2.2.2.2 _ hcode) hf hlo hc hs hdg kk
theorem kmin {index : Nat} {x y : Int32} (E : CallFix p m c cc nL s args TBL own) (hn : ls.size = nL) (hlink : Cond.methodLink own index Lib.Math.min.name ∈ TBL) (hst : Cond.static Lib.Math.min.name ∈ TBL) (hini : Cond.initialized "java/lang/Math" ∈ TBL) (hcode : Cond.code Lib.Math.min.name Lib.Math.min.code 2 (some .int) ∈ TBL) (hf : 1 ≤ R.frames) (hlo : (rest.map fun v => v.category).sum + 13 ≤ R.locals) (hc : cells ≤ R.cells) (hs : slots ≤ R.slots) (hdg : decode cc pc = .ok (.invokestatic index, 3))
    (kk : W p l e R s m args below meth c H locs cells slots Q (F0 m (pc + 3) ls (.int (if y < x then y else x) :: rest))) : W p l e R s m args below meth c H locs cells slots Q (F0 m pc ls (.int y :: .int x :: rest)) :=
  va_mmin E.1 E.2.1 (by rw [E.2.2.1, hn]) E.2.2.2.1 (E.2.2.2.2 _ hlink) (E.2.2.2.2 _ hst) (E.2.2.2.2 _ hini) (E.2.2.2.2 _ hcode) hf hlo hc hs hdg kk
theorem kabs {index : Nat} {x : Int32} (E : CallFix p m c cc nL s args TBL own) (hn : ls.size = nL) (hlink : Cond.methodLink own index Lib.Math.abs.name ∈ TBL) (hst : Cond.static Lib.Math.abs.name ∈ TBL) (hini : Cond.initialized "java/lang/Math" ∈ TBL) (hcode : Cond.code Lib.Math.abs.name Lib.Math.abs.code 1 (some .int) ∈ TBL) (hf : 1 ≤ R.frames) (hlo : (rest.map fun v => v.category).sum + 13 ≤ R.locals) (hc : cells ≤ R.cells) (hs : slots ≤ R.slots) (hdg : decode cc pc = .ok (.invokestatic index, 3))
    (kk : W p l e R s m args below meth c H locs cells slots Q (F0 m (pc + 3) ls (.int (if 0 ≤ x then x else 0 - x) :: rest))) : W p l e R s m args below meth c H locs cells slots Q (F0 m pc ls (.int x :: rest)) :=
  va_mabs E.1 E.2.1 (by rw [E.2.2.1, hn]) E.2.2.2.1 (E.2.2.2.2 _ hlink) (E.2.2.2.2 _ hst) (E.2.2.2.2 _ hini) (E.2.2.2.2 _ hcode) hf hlo hc hs hdg kk
end KB
/-! Calls -/
section KC
variable {cl : List vw_C} {dC : Nat → ClassId} {dI : Nat → Nat → Nat} {cI : ClassId} {tb : Tbs} {l : Launch} {y : MethodName} {cc bytes : ByteArray} {maxL : Nat} {rm : Room} {S : Type} {out : S → va_W}
variable {p : Program} {e : Env} {R : Room} {s : State} {m : MethodId} {args : Array Value} {below : List Frame} {meth : Method} {c : Code} {H : Heap} {locs : List Loc} {cells slots cells' slots' : Nat} {Q : State → Prop} {nL pc index : Nat} {ls : Array Slot} {own : String} {A : Nat → Prop} {ws wc wr : va_W} {rest st : List Value}
/-- behind a call: the rest of the world as it was, the callee's cells as it leaves them, in the caller's order -/
theorem Wl.join {ws' w1 : va_W} {H1 : Heap} {locs1 : List Loc} {t : State} (hw : Wl cl dC dI cI tb A s H locs ws) (isC isR perm : List Nat) (hC : isC.map (fun i => ws[i]?) = wc.map some) (hR : isR.map (fun i => ws[i]?) = wr.map some) (hn : va_nd isR = true) (hdis : ∀ i ∈ isR, i ∉ isC) (hnp : va_nd perm = true) (hp : perm.map (fun i => (wr ++ w1)[i]?) = ws'.map some)
    (ht : t.heap = H1) (hB : End0 cl dC dI cI (va_A wc H.size) w1 t) (hk : ∀ q : Nat, q < H.size → ¬ va_A wc H.size q → H1[q]? = H[q]?) (hS : va_S A s.heap H1 locs1) : Wl cl dC dI cI tb A s H1 locs1 ws' := by
  obtain ⟨hP1, -, hD1⟩ := hB
  rw [ht] at hP1
  obtain ⟨hP, hD⟩ := va_join hw.2.1 hw.2.2.1 isC isR hC hR hn hdis hk (va_free hw.2.2.1 hw.2.2.2.1 hw.2.2.2.2.1 isC hC) hP1 hD1
  refine ⟨hw.1, ?_, hD.sub perm hnp hp, hS, hw.2.2.2.2⟩
  intro k q hq
  have h1 : (perm.map (fun i => (wr ++ w1)[i]?))[k]? = some (some q) := by rw [hp, List.getElem?_map, hq]; rfl
  rw [List.getElem?_map] at h1
  cases hi : perm[k]? with
  | none => rw [hi] at h1; cases h1
  | some i => rw [hi] at h1; exact hP i q (Option.some.inj h1)
theorem Wl.sub (hw : Wl cl dC dI cI tb A s H locs ws) (isC : List Nat) (hC : isC.map (fun i => ws[i]?) = wc.map some) : va_P (dC, dI) cl wc H := by
  intro k q hq
  have h1 : (isC.map (fun i => ws[i]?))[k]? = some (some q) := by rw [hC, List.getElem?_map, hq]; rfl
  rw [List.getElem?_map] at h1
  cases hi : isC[k]? with
  | none => rw [hi] at h1; cases h1
  | some i => rw [hi] at h1; exact hw.2.1 i q (Option.some.inj h1)
theorem Wl.perm (hw : Wl cl dC dI cI tb A s H locs ws) (isC : List Nat) (hC : isC.map (fun i => ws[i]?) = wc.map some) (hn : va_nd isC = true) : Wl cl dC dI cI tb A s H locs wc := ⟨hw.1, hw.sub isC hC, hw.2.2.1.sub isC hn hC, hw.2.2.2⟩
theorem Wl.pre {av : List Value} (hw : Wl cl dC dI cI tb A s H locs ws) (isC : List Nat) (hC : isC.map (fun i => ws[i]?) = wc.map some) (hn : va_nd isC = true) : ∀ U : State, U.heap = H → s.WarmedH U.vm → va_Pc av (Pre0 cl dC dI cI tb wc H.size) av.toArray U :=
  fun U hU hW => ⟨rfl, by rw [hU], by rw [hU]; exact hw.sub isC hC, va_K.moved hW.alike hw.1, (hw.2.2.1.sub isC hn hC).weaken (fun _ _ _ _ => trivial), by rw [hU]; exact ((hw.2.2.2.2.2.kept hw.2.2.2.1.2.1).moved hW.alike).narrow (va_free hw.2.2.1 hw.2.2.2.1 hw.2.2.2.2.1 isC hC)⟩
theorem kVv {post : S → Prop} {ws' : S → va_W} {As : List Value} {b ci : Nat} {q : vw_C} {fs : List Value} (E : CallFix p m c cc nL s args TBL own) (hw : Wl cl dC dI cI tb A s H locs ws) (hct : CtV cl dC dI cI tb l y bytes maxL rm (.ref b :: As) wc S out post)
    (h1 : Cond.methodLink own index y ∈ TBL) (h2 : Cond.instanceMethod y ∈ TBL) (h3 : Cond.selects y.cls y y ∈ TBL) (h4 : Cond.initialized y.cls ∈ TBL) (h5 : Cond.code y bytes maxL none ∈ TBL)
    (n : Nat) (hd : y.cls ≠ "java/lang/invoke/MethodHandle" ∧ y.cls ≠ "java/lang/invoke/VarHandle" ∧ (parseMethodDescriptor y.desc).map (fun d => d.parameters.length) = some n) (hR0 : rm.frames + 1 ≤ R.frames ∧ 8 + (maxL + 11) + rm.locals ≤ R.locals) (hR1 : cells + rm.cells ≤ R.cells ∧ slots + rm.slots ≤ R.slots) (hcs : cells + rm.cells = cells' ∧ slots + rm.slots = slots')
    (hc : cl[ci]? = some q) (hq : q.1 = y.cls) (q0 : Nat) (he : ws[q0]? = some (b, .inr (ci, fs)))
    (isC isR perm : List Nat) (hC : isC.map (fun i => ws[i]?) = wc.map some) (hnC : va_nd isC = true) (hRr : isR.map (fun i => ws[i]?) = wr.map some) (hn : va_nd isR = true) (hdis : ∀ i ∈ isR, i ∉ isC) (hnp : va_nd perm = true) (hp : ∀ u : S, perm.map (fun i => (wr ++ out u)[i]?) = (ws' u).map some)
    (hls : ls.size = nL) (hlen : As.length = n) (hst : st = As.reverse ++ .ref b :: rest) (hroom : (rest.map fun v => v.category).sum ≤ 8) (hdg : decode cc pc = .ok (.invokevirtual index, 3))
    (kk : ∀ (u : S) (H1 : Heap) (locs1 : List Loc), post u → Wl cl dC dI cI tb A s H1 locs1 (ws' u) → W p l e R s m args below meth c H1 locs1 cells' slots' Q (F0 m (pc + 3) ls rest)) : W p l e R s m args below meth c H locs cells slots Q (F0 m pc ls st) := by
  obtain ⟨rfl, rfl⟩ := hcs
  have hG : GoodIn TBL (wsV own index y.cls y (.code y bytes maxL none :: TBL)) := tb_gd0 (fun w hw => by
    unfold wsV at hw
    simp only [List.cons_append, List.nil_append, List.mem_cons] at hw
    rcases hw with rfl | rfl | rfl | rfl | rfl | hw
    · exact h1
    · exact h2
    · exact h3
    · exact h4
    · exact h5
    · exact hw)
  obtain ⟨cellB, z1, z2, z3⟩ := va_recv hw.1 hw.2.1 hc he
  have hF := va_free hw.2.2.1 hw.2.2.2.1 hw.2.2.2.2.1 isC hC
  refine va_callv (va_runV (C := y.cls) (As := As) (rest := rest) E (hct H.size) (cwV n E.2.2.2.2 hG rfl rfl rfl ⟨rfl, hd⟩ hR0) ⟨blind0, ⟨cellB, z1, z2, by rw [← hq]; exact z3⟩, hw.pre isC hC hnC⟩ rfl hlen hls hst (lv_room hroom) hdg hR1) hw.2.2.2.1 (fun q _ h => hF q h) hF (fun u t H1 locs1 ht hvm hpost hB hz1 hk1 hS => ?_)
  exact kk u H1 locs1 hpost (hw.join isC isR perm hC hRr hn hdis hnp (hp u) ht hB hk1 hS)
theorem kVi {ty : FieldType} {post : Int32 → S → Prop} {ws' : S → va_W} {As : List Value} {b ci : Nat} {q : vw_C} {fs : List Value} (E : CallFix p m c cc nL s args TBL own) (hw : Wl cl dC dI cI tb A s H locs ws) (hct : CtI cl dC dI cI tb l y bytes maxL ty rm (.ref b :: As) wc S out post)
    (h1 : Cond.methodLink own index y ∈ TBL) (h2 : Cond.instanceMethod y ∈ TBL) (h3 : Cond.selects y.cls y y ∈ TBL) (h4 : Cond.initialized y.cls ∈ TBL) (h5 : Cond.code y bytes maxL (some ty) ∈ TBL)
    (n : Nat) (hd : y.cls ≠ "java/lang/invoke/MethodHandle" ∧ y.cls ≠ "java/lang/invoke/VarHandle" ∧ (parseMethodDescriptor y.desc).map (fun d => d.parameters.length) = some n) (hR0 : rm.frames + 1 ≤ R.frames ∧ 8 + (maxL + 11) + rm.locals ≤ R.locals) (hR1 : cells + rm.cells ≤ R.cells ∧ slots + rm.slots ≤ R.slots) (hcs : cells + rm.cells = cells' ∧ slots + rm.slots = slots')
    (hc : cl[ci]? = some q) (hq : q.1 = y.cls) (q0 : Nat) (he : ws[q0]? = some (b, .inr (ci, fs)))
    (isC isR perm : List Nat) (hC : isC.map (fun i => ws[i]?) = wc.map some) (hnC : va_nd isC = true) (hRr : isR.map (fun i => ws[i]?) = wr.map some) (hn : va_nd isR = true) (hdis : ∀ i ∈ isR, i ∉ isC) (hnp : va_nd perm = true) (hp : ∀ u : S, perm.map (fun i => (wr ++ out u)[i]?) = (ws' u).map some)
    (hls : ls.size = nL) (hlen : As.length = n) (hst : st = As.reverse ++ .ref b :: rest) (hroom : (rest.map fun v => v.category).sum ≤ 8) (hdg : decode cc pc = .ok (.invokevirtual index, 3))
    (kk : ∀ (r : Int32) (u : S) (H1 : Heap) (locs1 : List Loc), post r u → Wl cl dC dI cI tb A s H1 locs1 (ws' u) → W p l e R s m args below meth c H1 locs1 cells' slots' Q (F0 m (pc + 3) ls (.int r :: rest))) : W p l e R s m args below meth c H locs cells slots Q (F0 m pc ls st) := by
  obtain ⟨rfl, rfl⟩ := hcs
  have hG : GoodIn TBL (wsV own index y.cls y (.code y bytes maxL (some ty) :: TBL)) := tb_gd0 (fun w hw => by
    unfold wsV at hw
    simp only [List.cons_append, List.nil_append, List.mem_cons] at hw
    rcases hw with rfl | rfl | rfl | rfl | rfl | hw
    · exact h1
    · exact h2
    · exact h3
    · exact h4
    · exact h5
    · exact hw)
  obtain ⟨cellB, z1, z2, z3⟩ := va_recv hw.1 hw.2.1 hc he
  have hF := va_free hw.2.2.1 hw.2.2.2.1 hw.2.2.2.2.1 isC hC
  refine va_calli (va_runV (C := y.cls) (As := As) (rest := rest) E (hct H.size) (cwV n E.2.2.2.2 hG rfl rfl rfl ⟨rfl, hd⟩ hR0) ⟨blind0, ⟨cellB, z1, z2, by rw [← hq]; exact z3⟩, hw.pre isC hC hnC⟩ rfl hlen hls hst (lv_room hroom) hdg hR1) hw.2.2.2.1 (fun q _ h => hF q h) hF (fun r u t H1 locs1 ht hvm hpost hB hz1 hk1 hS => ?_)
  exact kk r u H1 locs1 hpost (hw.join isC isR perm hC hRr hn hdis hnp (hp u) ht hB hk1 hS)
theorem kSv {post : S → Prop} {ws' : S → va_W} {As : List Value} (E : CallFix p m c cc nL s args TBL own) (hw : Wl cl dC dI cI tb A s H locs ws) (hct : CtV cl dC dI cI tb l y bytes maxL rm As wc S out post)
    (h1 : Cond.methodLink own index y ∈ TBL) (h2 : Cond.static y ∈ TBL) (h4 : Cond.initialized y.cls ∈ TBL) (h5 : Cond.code y bytes maxL none ∈ TBL)
    (n : Nat) (hd : y.cls ≠ "java/lang/invoke/MethodHandle" ∧ y.cls ≠ "java/lang/invoke/VarHandle" ∧ (parseMethodDescriptor y.desc).map (fun d => d.parameters.length) = some n) (hR0 : rm.frames + 1 ≤ R.frames ∧ 8 + (maxL + 11) + rm.locals ≤ R.locals) (hR1 : cells + rm.cells ≤ R.cells ∧ slots + rm.slots ≤ R.slots) (hcs : cells + rm.cells = cells' ∧ slots + rm.slots = slots')
    (isC isR perm : List Nat) (hC : isC.map (fun i => ws[i]?) = wc.map some) (hnC : va_nd isC = true) (hRr : isR.map (fun i => ws[i]?) = wr.map some) (hn : va_nd isR = true) (hdis : ∀ i ∈ isR, i ∉ isC) (hnp : va_nd perm = true) (hp : ∀ u : S, perm.map (fun i => (wr ++ out u)[i]?) = (ws' u).map some)
    (hls : ls.size = nL) (hlen : As.length = n) (hst : st = As.reverse ++ rest) (hroom : (rest.map fun v => v.category).sum ≤ 8) (hdg : decode cc pc = .ok (.invokestatic index, 3))
    (kk : ∀ (u : S) (H1 : Heap) (locs1 : List Loc), post u → Wl cl dC dI cI tb A s H1 locs1 (ws' u) → W p l e R s m args below meth c H1 locs1 cells' slots' Q (F0 m (pc + 3) ls rest)) : W p l e R s m args below meth c H locs cells slots Q (F0 m pc ls st) := by
  obtain ⟨rfl, rfl⟩ := hcs
  have hG : GoodIn TBL (va_wsS own index y (.code y bytes maxL none :: TBL)) := tb_gd0 (fun w hw => by
    unfold va_wsS at hw
    simp only [List.cons_append, List.nil_append, List.mem_cons] at hw
    rcases hw with rfl | rfl | rfl | rfl | hw
    · exact h1
    · exact h2
    · exact h4
    · exact h5
    · exact hw)
  have hF := va_free hw.2.2.1 hw.2.2.2.1 hw.2.2.2.2.1 isC hC
  refine va_callv (va_runS (As := As) (rest := rest) E (hct H.size) (va_cwS n E.2.2.2.2 hG rfl rfl rfl hd hR0) ⟨blind0, hw.pre isC hC hnC⟩ rfl hlen hls hst (lv_room hroom) hdg hR1) hw.2.2.2.1 (fun q _ h => hF q h) hF (fun u t H1 locs1 ht hvm hpost hB hz1 hk1 hS => ?_)
  exact kk u H1 locs1 hpost (hw.join isC isR perm hC hRr hn hdis hnp (hp u) ht hB hk1 hS)
theorem kIv {post : S → Prop} {ws' : S → va_W} {As : List Value} {b : Nat} (E : CallFix p m c cc nL s args TBL own) (hw : Wl cl dC dI cI tb A s H locs ws) (hct : CtV cl dC dI cI tb l y bytes maxL rm (.ref b :: As) wc S out post)
    (h1 : Cond.methodLink own index y ∈ TBL) (h2 : Cond.instanceMethod y ∈ TBL) (h4 : Cond.initialized y.cls ∈ TBL) (h5 : Cond.code y bytes maxL none ∈ TBL) (hy : y.name = "<init>")
    (n : Nat) (hd : y.cls ≠ "java/lang/invoke/MethodHandle" ∧ y.cls ≠ "java/lang/invoke/VarHandle" ∧ (parseMethodDescriptor y.desc).map (fun d => d.parameters.length) = some n) (hR0 : rm.frames + 1 ≤ R.frames ∧ 8 + (maxL + 11) + rm.locals ≤ R.locals) (hR1 : cells + rm.cells ≤ R.cells ∧ slots + rm.slots ≤ R.slots) (hcs : cells + rm.cells = cells' ∧ slots + rm.slots = slots')
    (isC isR perm : List Nat) (hC : isC.map (fun i => ws[i]?) = wc.map some) (hnC : va_nd isC = true) (hRr : isR.map (fun i => ws[i]?) = wr.map some) (hn : va_nd isR = true) (hdis : ∀ i ∈ isR, i ∉ isC) (hnp : va_nd perm = true) (hp : ∀ u : S, perm.map (fun i => (wr ++ out u)[i]?) = (ws' u).map some)
    (hls : ls.size = nL) (hlen : As.length = n) (hst : st = As.reverse ++ .ref b :: rest) (hroom : (rest.map fun v => v.category).sum ≤ 8) (hdg : decode cc pc = .ok (.invokespecial index, 3))
    (kk : ∀ (u : S) (H1 : Heap) (locs1 : List Loc), post u → Wl cl dC dI cI tb A s H1 locs1 (ws' u) → W p l e R s m args below meth c H1 locs1 cells' slots' Q (F0 m (pc + 3) ls rest)) : W p l e R s m args below meth c H locs cells slots Q (F0 m pc ls st) := by
  obtain ⟨rfl, rfl⟩ := hcs
  have hG : GoodIn TBL (.code y bytes maxL none :: TBL) := tb_gd0 (fun w hw => by
    rcases List.mem_cons.mp hw with rfl | hw
    · exact h5
    · exact hw)
  have hF := va_free hw.2.2.1 hw.2.2.2.1 hw.2.2.2.2.1 isC hC
  refine va_callv (va_runI (As := As) (rest := rest) E (hct H.size) (cwI n E.2.2.2.2 hG rfl rfl rfl (E.2.2.2.2 _ h4) (E.2.2.2.2 _ h1) (E.2.2.2.2 _ h2) hy hd hR0) ⟨blind0, hw.pre isC hC hnC⟩ rfl hlen hls hst (lv_room hroom) hdg hR1) hw.2.2.2.1 (fun q _ h => hF q h) hF (fun u t H1 locs1 ht hvm hpost hB hz1 hk1 hS => ?_)
  exact kk u H1 locs1 hpost (hw.join isC isR perm hC hRr hn hdis hnp (hp u) ht hB hk1 hS)
theorem kSi {ty : FieldType} {post : Int32 → S → Prop} {ws' : S → va_W} {As : List Value} (E : CallFix p m c cc nL s args TBL own) (hw : Wl cl dC dI cI tb A s H locs ws) (hct : CtI cl dC dI cI tb l y bytes maxL ty rm As wc S out post)
    (h1 : Cond.methodLink own index y ∈ TBL) (h2 : Cond.static y ∈ TBL) (h4 : Cond.initialized y.cls ∈ TBL) (h5 : Cond.code y bytes maxL (some ty) ∈ TBL)
    (n : Nat) (hd : y.cls ≠ "java/lang/invoke/MethodHandle" ∧ y.cls ≠ "java/lang/invoke/VarHandle" ∧ (parseMethodDescriptor y.desc).map (fun d => d.parameters.length) = some n) (hR0 : rm.frames + 1 ≤ R.frames ∧ 8 + (maxL + 11) + rm.locals ≤ R.locals) (hR1 : cells + rm.cells ≤ R.cells ∧ slots + rm.slots ≤ R.slots) (hcs : cells + rm.cells = cells' ∧ slots + rm.slots = slots')
    (isC isR perm : List Nat) (hC : isC.map (fun i => ws[i]?) = wc.map some) (hnC : va_nd isC = true) (hRr : isR.map (fun i => ws[i]?) = wr.map some) (hn : va_nd isR = true) (hdis : ∀ i ∈ isR, i ∉ isC) (hnp : va_nd perm = true) (hp : ∀ u : S, perm.map (fun i => (wr ++ out u)[i]?) = (ws' u).map some)
    (hls : ls.size = nL) (hlen : As.length = n) (hst : st = As.reverse ++ rest) (hroom : (rest.map fun v => v.category).sum ≤ 8) (hdg : decode cc pc = .ok (.invokestatic index, 3))
    (kk : ∀ (r : Int32) (u : S) (H1 : Heap) (locs1 : List Loc), post r u → Wl cl dC dI cI tb A s H1 locs1 (ws' u) → W p l e R s m args below meth c H1 locs1 cells' slots' Q (F0 m (pc + 3) ls (.int r :: rest))) : W p l e R s m args below meth c H locs cells slots Q (F0 m pc ls st) := by
  obtain ⟨rfl, rfl⟩ := hcs
  have hG : GoodIn TBL (va_wsS own index y (.code y bytes maxL (some ty) :: TBL)) := tb_gd0 (fun w hw => by
    unfold va_wsS at hw
    simp only [List.cons_append, List.nil_append, List.mem_cons] at hw
    rcases hw with rfl | rfl | rfl | rfl | hw
    · exact h1
    · exact h2
    · exact h4
    · exact h5
    · exact hw)
  have hF := va_free hw.2.2.1 hw.2.2.2.1 hw.2.2.2.2.1 isC hC
  refine va_calli (va_runS (As := As) (rest := rest) E (hct H.size) (va_cwS n E.2.2.2.2 hG rfl rfl rfl hd hR0) ⟨blind0, hw.pre isC hC hnC⟩ rfl hlen hls hst (lv_room hroom) hdg hR1) hw.2.2.2.1 (fun q _ h => hF q h) hF (fun r u t H1 locs1 ht hvm hpost hB hz1 hk1 hS => ?_)
  exact kk r u H1 locs1 hpost (hw.join isC isR perm hC hRr hn hdis hnp (hp u) ht hB hk1 hS)
end KC
