/-! THE LAW, from its entry: the classes, the arrays of ints, the tables and the script; then the walk -/
set_option maxHeartbeats 4000000 in
set_option maxRecDepth 100000 in
theorem whole_start {p : Program} {e : Env} {s : State} {m : MethodId} {below : List Frame} {meth : Method} {c : Code} (l : Launch) {b L : Nat} {xs : Nat → Int32} (hL : L ≤ 2562) (C0 : lw_At p s m meth c b L xs) : W p l e room_1 s m #[Value.ref b] below meth c s.heap [] 0 0 (lw_Z below #[Value.ref b] s) (entryFrame m ([Value.ref b] : List Value).toArray 4) := by
  obtain ⟨hx, hb, hr, hml, hown, hts0, hX, hbl, hlocks, hgv⟩ := id C0
  have hts := tb_of hts0
  have hs := flat_of_before _ hgv
  obtain ⟨c0, i0, K0⟩ := u_known (n := 5) hts in_PP (hts0 (.instantiable "PicturePacker" 5) (by decide +kernel))
  obtain ⟨c1, i1, K1⟩ := u_known (n := 4) hts in_Pic (hts0 (.instantiable "PicturePacker$Picture" 4) (by decide +kernel))
  obtain ⟨c2, i2, K2⟩ := u_known (n := 4) hts in_Rows (hts0 (.instantiable "PicturePacker$Rows" 4) (by decide +kernel))
  obtain ⟨c3, i3, K3⟩ := u_known (n := 4) hts in_Out (hts0 (.instantiable "PicturePacker$Output" 4) (by decide +kernel))
  obtain ⟨c4, i4, K4⟩ := u_known (n := 3) hts in_Chk (hts0 (.instantiable "PicturePacker$Chunks" 3) (by decide +kernel))
  obtain ⟨c5, i5, K5⟩ := u_known (n := 6) hts in_Pak (hts0 (.instantiable "PicturePacker$Packer" 6) (by decide +kernel))
  obtain ⟨c6, i6, K6⟩ := u_known (n := 6) hts in_Fin (hts0 (.instantiable "PicturePacker$RunFinder" 6) (by decide +kernel))
  obtain ⟨c7, i7, K7⟩ := u_known (n := 12) hts in_Mod (hts0 (.instantiable "PicturePackerModel" 12) (by decide +kernel))
  obtain ⟨dC, dI, hKc⟩ : ∃ (dC : Nat → ClassId) (dI : Nat → Nat → Nat), ∀ (k : Nat) (q : vw_C), classes[k]? = some q → u_Kn s q.1 q.2.1 q.2.2 (dC k) (dI k) := by
    refine ⟨fun k => if k = 0 then c0 else if k = 1 then c1 else if k = 2 then c2 else if k = 3 then c3 else if k = 4 then c4 else if k = 5 then c5 else if k = 6 then c6 else c7, fun k => if k = 0 then i0 else if k = 1 then i1 else if k = 2 then i2 else if k = 3 then i3 else if k = 4 then i4 else if k = 5 then i5 else if k = 6 then i6 else i7, ?_⟩
    intro k q hq
    match k, hq with
    | 0, hq => cases hq; exact K0
    | 1, hq => cases hq; exact K1
    | 2, hq => cases hq; exact K2
    | 3, hq => cases hq; exact K3
    | 4, hq => cases hq; exact K4
    | 5, hq => cases hq; exact K5
    | 6, hq => cases hq; exact K6
    | 7, hq => cases hq; exact K7
    | k + 8, hq => simp [classes] at hq
  obtain ⟨cI, kA, comp, hfind, hkA, hkind⟩ := Cond.arrayClass_spec (hts0 (.arrayClass .int) (by decide +kernel))
  have hK : va_K (dC, dI) classes [(cI, .int)] s := ⟨hKc, fun k q h => by
    match k, h with
    | 0, h => cases h; exact ⟨fun n z => ⟨fun k h => (by cases h), kA, hkA, comp, hkind⟩, hfind⟩
    | k + 1, h => simp at h⟩
  have hA : ∀ a : Nat, a < s.heap.size → ¬ (fun q : Nat => s.heap.size ≤ q) a := fun a h => Nat.not_le.mpr h
  obtain ⟨t0, e0, T0⟩ := va_Tof (tm := .static "PicturePacker" "SIGNATURE" "[I") (ty := .int) (N := 8) (f := fun j => .int (sigF j)) (A := fun q : Nat => s.heap.size ≤ q) (by decide) (hs (.arrayOf (.static "PicturePacker" "SIGNATURE" "[I") .int) (by decide +kernel)) (va_eqt (hs (.eq (.length (.static "PicturePacker" "SIGNATURE" "[I")) (.int 8)) (by decide +kernel))) (by
    intro j hj
    match j, hj with
    | 0, _ => exact va_eqt (hs (.eq (.elem (.static "PicturePacker" "SIGNATURE" "[I") (.int 0)) (.int 137)) (by decide +kernel))
    | 1, _ => exact va_eqt (hs (.eq (.elem (.static "PicturePacker" "SIGNATURE" "[I") (.int 1)) (.int 80)) (by decide +kernel))
    | 2, _ => exact va_eqt (hs (.eq (.elem (.static "PicturePacker" "SIGNATURE" "[I") (.int 2)) (.int 78)) (by decide +kernel))
    | 3, _ => exact va_eqt (hs (.eq (.elem (.static "PicturePacker" "SIGNATURE" "[I") (.int 3)) (.int 71)) (by decide +kernel))
    | 4, _ => exact va_eqt (hs (.eq (.elem (.static "PicturePacker" "SIGNATURE" "[I") (.int 4)) (.int 13)) (by decide +kernel))
    | 5, _ => exact va_eqt (hs (.eq (.elem (.static "PicturePacker" "SIGNATURE" "[I") (.int 5)) (.int 10)) (by decide +kernel))
    | 6, _ => exact va_eqt (hs (.eq (.elem (.static "PicturePacker" "SIGNATURE" "[I") (.int 6)) (.int 26)) (by decide +kernel))
    | 7, _ => exact va_eqt (hs (.eq (.elem (.static "PicturePacker" "SIGNATURE" "[I") (.int 7)) (.int 10)) (by decide +kernel))
    | j + 8, h => exact absurd h (by omega)) hA
  obtain ⟨t1, e1, T1⟩ := va_Tof (tm := .static "PicturePacker" "HEADER_END" "[I") (ty := .int) (N := 5) (f := fun j => .int (hdrF j)) (A := fun q : Nat => s.heap.size ≤ q) (by decide) (hs (.arrayOf (.static "PicturePacker" "HEADER_END" "[I") .int) (by decide +kernel)) (va_eqt (hs (.eq (.length (.static "PicturePacker" "HEADER_END" "[I")) (.int 5)) (by decide +kernel))) (by
    intro j hj
    match j, hj with
    | 0, _ => exact va_eqt (hs (.eq (.elem (.static "PicturePacker" "HEADER_END" "[I") (.int 0)) (.int 8)) (by decide +kernel))
    | 1, _ => exact va_eqt (hs (.eq (.elem (.static "PicturePacker" "HEADER_END" "[I") (.int 1)) (.int 2)) (by decide +kernel))
    | 2, _ => exact va_eqt (hs (.eq (.elem (.static "PicturePacker" "HEADER_END" "[I") (.int 2)) (.int 0)) (by decide +kernel))
    | 3, _ => exact va_eqt (hs (.eq (.elem (.static "PicturePacker" "HEADER_END" "[I") (.int 3)) (.int 0)) (by decide +kernel))
    | 4, _ => exact va_eqt (hs (.eq (.elem (.static "PicturePacker" "HEADER_END" "[I") (.int 4)) (.int 0)) (by decide +kernel))
    | j + 5, h => exact absurd h (by omega)) hA
  obtain ⟨t3, e3, T3⟩ := va_Tof (tm := .static "PicturePacker" "DATA_START" "[I") (ty := .int) (N := 2) (f := fun j => .int (datF j)) (A := fun q : Nat => s.heap.size ≤ q) (by decide) (hs (.arrayOf (.static "PicturePacker" "DATA_START" "[I") .int) (by decide +kernel)) (va_eqt (hs (.eq (.length (.static "PicturePacker" "DATA_START" "[I")) (.int 2)) (by decide +kernel))) (by
    intro j hj
    match j, hj with
    | 0, _ => exact va_eqt (hs (.eq (.elem (.static "PicturePacker" "DATA_START" "[I") (.int 0)) (.int 120)) (by decide +kernel))
    | 1, _ => exact va_eqt (hs (.eq (.elem (.static "PicturePacker" "DATA_START" "[I") (.int 1)) (.int 1)) (by decide +kernel))
    | j + 2, h => exact absurd h (by omega)) hA
  have Z0 := va_Zof (A := fun q : Nat => s.heap.size ≤ q) (hts0 (.laysStatic "PicturePacker" "SIGNATURE" "[I") (by decide +kernel)) (hts0 (.initialized "PicturePacker") (by decide +kernel)) e0 hA
  have Z1 := va_Zof (A := fun q : Nat => s.heap.size ≤ q) (hts0 (.laysStatic "PicturePacker" "HEADER_END" "[I") (by decide +kernel)) (hts0 (.initialized "PicturePacker") (by decide +kernel)) e1 hA
  have Z3 := va_Zof (A := fun q : Nat => s.heap.size ≤ q) (hts0 (.laysStatic "PicturePacker" "DATA_START" "[I") (by decide +kernel)) (hts0 (.initialized "PicturePacker") (by decide +kernel)) e3 hA
  have T2 : va_T .int b L (fun j => .int (xs j)) (fun q : Nat => s.heap.size ≤ q) s s.heap := by
    obtain ⟨scr, q1, q2, q3, q4, q5⟩ := hX
    exact ⟨scr, q1, q2, q3, by rw [q4]; exact Nat.le_refl L, by rw [q4] <;> rfl, q5, hA b hbl⟩
  obtain ⟨tb, hb0, hb1, hb2, hb3⟩ : ∃ tb : Tbs, tb 0 = (t0, 8, sigF) ∧ tb 1 = (t1, 5, hdrF) ∧ tb 2 = (b, L, xs) ∧ tb 3 = (t3, 2, datF) := ⟨fun k => if k = 0 then (t0, 8, sigF) else if k = 1 then (t1, 5, hdrF) else if k = 2 then (b, L, xs) else (t3, 2, datF), rfl, rfl, rfl, rfl⟩
  have hS : Stc tb (fun q : Nat => s.heap.size ≤ q) s s.heap := by
    refine ⟨⟨by rw [hb0]; exact Z0, by rw [hb1]; exact Z1, by rw [hb3]; exact Z3⟩, fun k hk => ?_⟩
    match k, hk with
    | 0, _ => rw [hb0]; exact T0
    | 1, _ => rw [hb1]; exact T1
    | 2, _ => rw [hb2]; exact T2
    | 3, _ => rw [hb3]; exact T3
    | k + 4, h => exact absurd h (by omega)
  have hbe : b = (tb 2).1 := by rw [hb2]
  rw [lg_entry_eq]
  have hl := lv_entry ([.ref b]) (n := 4) (Nat.le_of_ble_eq_true rfl)
  generalize (lg_sl ([.ref b]) ++ List.replicate (4 - (lg_sl ([.ref b])).length) Slot.unset).toArray = ls at hl ⊢
  have hl : lv_has ls 4 [(0, .ref b)] := hl
  have E : CallFix p m c code 4 s #[Value.ref b] TBL "PicturePackerLaw" := ⟨hx, hb, hml, hown, hts⟩
  have hp : wp_Law (fun _ => 0) tb True := law_pure _ tb (by rw [hb0]) (by rw [hb1]) (by rw [hb3]) (by rw [hb2]; exact hL)
  rw [hbe] at E hl ⊢
  exact s_Law (a := fun _ => 0) (n := fun _ => 0) E hr hlocks ls ⟨hK, fun k q h => by simp at h, ⟨fun i j p q h => by simp at h, fun k q h => by simp at h⟩, va_S.rf, fun _ h => h, hS⟩ hl hp
