/-! PURE: the file; put of the class -/
theorem pB_pre (bs c : List Nat) (q : List Bool) (b : Bool) : pB (bs ++ c, q) b = (bs ++ (pB (c, q) b).1, (pB (c, q) b).2) := by
  unfold pB
  simp only
  split
  · simp only [List.append_assoc]
  · rfl
theorem pBs_pre (bs : List Nat) : ∀ (l : List Bool) (c : List Nat) (q : List Bool), pBs (bs ++ c, q) l = (bs ++ (pBs (c, q) l).1, (pBs (c, q) l).2)
  | [], c, q => rfl
  | b :: l, c, q => by
    rw [pBs_cons, pBs_cons, pB_pre]
    exact pBs_pre bs l (pB (c, q) b).1 (pB (c, q) b).2
theorem packS_pre (R : Nat → Nat) (m : Nat) (bs : List Nat) : packS R m bs = bs ++ packS R m [] := by
  unfold packS
  have h := pBs_pre bs ([true, true, false] ++ (enc R m m 0 ++ signB 256)) [] []
  rw [List.append_nil] at h
  rw [h]
  unfold fin
  simp only
  split
  · rfl
  · rw [List.append_assoc]
theorem pB_B {st : List Nat × List Bool} {b : Bool} (ho : okS st) (h : AllB st.1) : AllB (pB st b).1 := by
  unfold okS at ho
  unfold pB
  split
  · rename_i h7
    refine h.app (fun v hv => ?_)
    rw [List.mem_singleton.mp hv]
    have := bitsVal_lt (st.2 ++ [b])
    rw [List.length_append, List.length_singleton, h7] at this
    exact this
  · exact h
theorem pBs_B : ∀ (l : List Bool) {st : List Nat × List Bool}, okS st → AllB st.1 → AllB (pBs st l).1
  | [], _, _, h => h
  | b :: l, st, ho, h => pBs_B l (pB_ok ho) (pB_B ho h)
theorem fin_B {st : List Nat × List Bool} (ho : okS st) (h : AllB st.1) : AllB (fin st) := by
  unfold okS at ho
  unfold fin
  split
  · exact h
  · refine h.app (fun v hv => ?_)
    rw [List.mem_singleton.mp hv]
    have := bitsVal_lt st.2
    exact Nat.lt_of_lt_of_le this (Nat.le_trans (Nat.pow_le_pow_right (by decide) (Nat.le_of_lt ho)) (by decide))
theorem packS_B (R : Nat → Nat) (m : Nat) : AllB (packS R m []) := by
  have ho : okS (([] : List Nat), ([] : List Bool)) := Nat.zero_lt_succ 7
  exact fin_B (pBs_ok _ ho) (pBs_B _ ho (fun v h => by cases h))
def sigN : List Nat := [137, 80, 78, 71, 13, 10, 26, 10]
def hdrN : List Nat := [8, 2, 0, 0, 0]
def datN : List Nat := [120, 1]
def datF (j : Nat) : Int32 := ([120, 1] : List Int32).getD j 0
theorem datF_N : ∀ j, j < 2 → datF j = nI (datN.getD j 0) := by decide
theorem datN_B : AllB datN := by unfold AllB datN; decide
def sigF (j : Nat) : Int32 := ([137, 80, 78, 71, 13, 10, 26, 10] : List Int32).getD j 0
def hdrF (j : Nat) : Int32 := ([8, 2, 0, 0, 0] : List Int32).getD j 0
theorem sigF_N : ∀ j, j < 8 → sigF j = nI (sigN.getD j 0) := by decide
theorem hdrF_N : ∀ j, j < 5 → hdrF j = nI (hdrN.getD j 0) := by decide
def bodyH (w h : Nat) : List Nat := be4 1229472850 ++ be4 w ++ be4 h ++ hdrN
def bodyD (R : Nat → Nat) (m : Nat) : List Nat := be4 1229209940 ++ [120] ++ [1] ++ packS R m [] ++ be4 (adlN R m)
def fileS (w h : Nat) (R : Nat → Nat) (m : Nat) : List Nat := sigN ++ chunk (bodyH w h) ++ chunk (bodyD R m) ++ chunk (be4 1229278788)
theorem bodyH_len (w h : Nat) : (bodyH w h).length = 17 := rfl
theorem bodyD_len (R : Nat → Nat) (m : Nat) : (bodyD R m).length = 10 + (packS R m []).length := by
  unfold bodyD
  simp only [List.length_append, be4_len, List.length_singleton]
  omega
theorem hdrN_B : AllB hdrN := by unfold AllB hdrN; decide
theorem sigN_B : AllB sigN := by unfold AllB sigN; decide
theorem bodyH_B (w h : Nat) : AllB (bodyH w h) := (((be4_B _).app (be4_B _)).app (be4_B _)).app hdrN_B
theorem bodyD_B (R : Nat → Nat) (m : Nat) : AllB (bodyD R m) := ((((be4_B _).app (by unfold AllB; decide)).app (by unfold AllB; decide)).app (packS_B R m)).app (be4_B _)
theorem fileS_len (w h : Nat) (R : Nat → Nat) (m : Nat) : (fileS w h R m).length = 63 + (packS R m []).length := by
  unfold fileS
  rw [List.length_append, List.length_append, List.length_append, chunk_len, chunk_len, chunk_len, bodyH_len, bodyD_len, be4_len]
  show 8 + _ + _ + _ = _
  omega
theorem w_addAll {n : Nat → Nat} {tb : Tbs} {K : Nat} {T bs : List Nat} {ob : Nat → Int32} {post : Int32 × (Nat → Int32) → Prop} (hn : n 11 < 2 ^ 31) (hT : (tb K).2.1 = T.length) (hT2 : T.length < 1000) (hv : ∀ j, j < T.length → (tb K).2.2 j = nI (T.getD j 0)) (hB : AllB T) (hl : bs.length + T.length ≤ n 11) (hr : Rep bs ob)
    (hp : ∀ ob', Rep (bs ++ T) ob' → post (nI (bs ++ T).length, ob')) : wp_Out_addAll n tb K (nI bs.length) ob post := by
  have loop : ∀ (k i : Nat) (f : Nat → Int32), i + k = T.length → Rep (bs ++ T.take i) f → wp_Out_addAll_2 n tb K post (k + 1) (nI (bs.length + i)) f (nI i) := by
    intro k
    induction k with
    | zero =>
      intro i f hi hf
      unfold wp_Out_addAll_2
      rw [hT]
      refine ⟨fun _ => ?_, fun q => absurd (nI_le (by omega) (by omega)) q⟩
      have e : T.take i = T := List.take_of_length_le (by omega)
      rw [e] at hf
      have := hp f hf
      rw [List.length_append] at this
      rw [show i = T.length by omega]
      exact this
    | succ k ih =>
      intro i f hi hf
      unfold wp_Out_addAll_2
      rw [hT]
      refine ⟨fun q => absurd q (nI_ge (by omega) (by omega)), fun _ => ⟨vp_in_nI (by omega) (by omega), ?_⟩⟩
      rw [nI_clamp (by omega), hv i (by omega)]
      have hb := getD_B hB i
      have l1 : (bs ++ T.take i).length = bs.length + i := by rw [List.length_append, List.length_take]; omega
      rw [← l1]
      refine w_addByte hn (by omega) hf (by rw [ni_255 (by omega), Nat.mod_eq_of_lt hb]) (fun f2 hf2 => ?_)
      intro z hz
      rw [hz, nI_1, l1]
      have e : bs ++ T.take i ++ [T.getD i 0] = bs ++ T.take (i + 1) := by
        rw [List.append_assoc]
        congr 1
        have hi2 : i < T.length := by omega
        rw [List.take_succ]
        simp [List.getD_eq_getElem?_getD, hi2]
      rw [e] at hf2
      exact ih (i + 1) f2 (by omega) hf2
  unfold wp_Out_addAll
  exact ⟨_, loop T.length 0 ob (by omega) (by rw [List.take_zero, List.append_nil]; exact hr)⟩
