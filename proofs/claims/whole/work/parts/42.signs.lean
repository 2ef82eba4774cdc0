/-! PURE: the bits of lengths and distances, both sides -/
theorem ni_shl {v k : Nat} (hk : k < 32) (h : v * 2 ^ k < 2 ^ 32) : nI v <<< (nI k &&& 31) = nI (v * 2 ^ k) := pk_shlN _ k (ni_sl k hk) h
theorem ni_shr {v k : Nat} (hk : k < 32) (h : v < 2 ^ 31) : nI v >>> (nI k &&& 31) = nI (v / 2 ^ k) := pk_shrN h _ k (ni_sl k hk)
theorem p2_lt {k : Nat} (h : k ≤ 20) : 2 ^ k ≤ 1048576 := Nat.pow_le_pow_right (by decide) h
theorem ni_mask {v k : Nat} (hv : v < 2 ^ 31) (hk : k ≤ 20) : nI v &&& ((1 : Int32) <<< (nI k &&& 31) - 1) = nI (v % 2 ^ k) := by
  have h1 := p2_lt hk
  have h0 : 0 < 2 ^ k := Nat.pow_pos (by decide)
  rw [show (1 : Int32) <<< (nI k &&& 31) = nI (1 * 2 ^ k) from ni_shl (by omega) (by rw [Nat.one_mul]; omega), Nat.one_mul, show (1 : Int32) = nI 1 from rfl, pk_sub h0]
  exact pk_andN (by omega) k (pk_tn (by omega))
theorem loB_mod {v m : Nat} : ∀ (k i : Nat), i + k ≤ m → loB (v % 2 ^ m) i k = loB v i k
  | 0, _, _ => rfl
  | k + 1, i, h => by
    rw [loB, loB, loB_mod k (i + 1) (by omega), Nat.testBit_mod_two_pow]
    simp [show i < m by omega]
/-- a length from 11 on whose sign has j bits more; a distance from 5 on -/
def lenJ (l j : Nat) : List Bool := signB (265 + 4 * (j - 1) + (l - (3 + 4 * 2 ^ j)) / 2 ^ j) ++ loB (l - (3 + 4 * 2 ^ j)) 0 j
def lenB (l : Nat) : List Bool := if l < 11 then signB (257 + l - 3) else if l = 258 then signB 285 else lenJ l (((l - 3) / 4).log2)
def dstJ (d j : Nat) : List Bool := hiB (4 + 2 * (j - 1) + (d - (1 + 2 * 2 ^ j)) / 2 ^ j) 5 ++ loB (d - (1 + 2 * 2 ^ j)) 0 j
def dstB (d : Nat) : List Bool := if d < 5 then hiB (d - 1) 5 else dstJ d (((d - 1) / 2).log2)
theorem lenB_j {l : Nat} (h : 11 ≤ l) (h2 : l < 258) : ∃ j, 1 ≤ j ∧ j ≤ 5 ∧ 3 + 4 * 2 ^ j ≤ l ∧ l < 3 + 8 * 2 ^ j ∧ lenB l = lenJ l j := by
  have h0 : (l - 3) / 4 ≠ 0 := by omega
  have a1 := Nat.log2_self_le h0
  have a2 := Nat.lt_log2_self (n := (l - 3) / 4)
  refine ⟨((l - 3) / 4).log2, ?_, ?_, ?_, ?_, ?_⟩
  · exact (Nat.le_log2 h0).mpr (by omega)
  · exact Nat.le_of_lt_succ ((Nat.log2_lt h0).mpr (by omega))
  · omega
  · rw [Nat.pow_succ] at a2; omega
  · unfold lenB
    rw [if_neg (by omega), if_neg (by omega)]
theorem dstB_j {d : Nat} (h : 5 ≤ d) (h2 : d ≤ 32768) : ∃ j, 1 ≤ j ∧ j ≤ 13 ∧ 1 + 2 * 2 ^ j ≤ d ∧ d < 1 + 4 * 2 ^ j ∧ dstB d = dstJ d j := by
  have h0 : (d - 1) / 2 ≠ 0 := by omega
  have a1 := Nat.log2_self_le h0
  have a2 := Nat.lt_log2_self (n := (d - 1) / 2)
  refine ⟨((d - 1) / 2).log2, ?_, ?_, ?_, ?_, ?_⟩
  · exact (Nat.le_log2 h0).mpr (by omega)
  · exact Nat.le_of_lt_succ ((Nat.log2_lt h0).mpr (by omega))
  · omega
  · rw [Nat.pow_succ] at a2; omega
  · unfold dstB
    rw [if_neg (by omega)]
theorem dv4 {x p : Nat} (hp : 0 < p) (h : x < 4 * p) : x / p < 4 := Nat.div_lt_of_lt_mul (by rw [Nat.mul_comm]; exact h)
theorem dv2 {x p : Nat} (hp : 0 < p) (h : x < 2 * p) : x / p < 2 := Nat.div_lt_of_lt_mul (by rw [Nat.mul_comm]; exact h)
/-! the class -/
theorem w_runSign {n : Nat → Nat} {s : Nat} {st : List Nat × List Bool} {ob : Nat → Int32} {post : Int32 × Int32 × Int32 × (Nat → Int32) → Prop} (hn : n 11 < 2 ^ 31) (hs0 : 256 ≤ s) (hs : s < 286) (ho : okS st) (hl : blen st + (signB s).length ≤ 8 * n 11) (hr : Rep st.1 ob) (hp : PO post (pBs st (signB s))) :
    wp_Pak_addRunSign n (nI st.1.length) (nI (bitsVal st.2)) (nI st.2.length) ob (nI s) post := by
  unfold wp_Pak_addRunSign
  unfold signB at hl hp
  rw [if_neg (by omega), if_neg (by omega)] at hl hp
  refine ⟨fun h3 => ?_, fun h3 => ?_⟩
  · have g3 : ¬ s < 280 := fun q => absurd h3 (nI_ge q (by decide))
    rw [if_neg g3, hiB_len] at hl
    rw [if_neg g3] at hp
    rw [show (192 : Int32) = nI 192 from rfl, nI_add, show (280 : Int32) = nI 280 from rfl, pk_sub (by omega)]
    exact w_hiBits (k := 8) hn (by omega) (by decide) ho hl hr hp
  · have g3 : s < 280 := Nat.lt_of_not_le (fun q => h3 (nI_le q (by omega)))
    rw [if_pos g3, hiB_len] at hl
    rw [if_pos g3] at hp
    rw [show (256 : Int32) = nI 256 from rfl, pk_sub (by omega)]
    exact w_hiBits (k := 7) hn (by omega) (by decide) ho hl hr hp
theorem w_longLen_31 {n : Nat → Nat} {l j : Nat} {st : List Nat × List Bool} {ob : Nat → Int32} {post : Int32 × Int32 × Int32 × (Nat → Int32) → Prop} (hn : n 11 < 2 ^ 31) (h1 : 1 ≤ j) (h5 : j ≤ 5) (ha : 3 + 4 * 2 ^ j ≤ l) (hb : l < 3 + 8 * 2 ^ j) (ho : okS st) (hl : blen st + (lenJ l j).length ≤ 8 * n 11) (hr : Rep st.1 ob) (hp : PO post (pBs st (lenJ l j))) :
    wp_Pak_addLongLength_31 n (nI l) post (nI st.1.length) (nI (bitsVal st.2)) (nI st.2.length) ob (nI j) (nI (3 + 4 * 2 ^ j)) := by
  have hp2 := p2_lt (k := j) (by omega)
  have h0 : 0 < 2 ^ j := Nat.pow_pos (by decide)
  unfold wp_Pak_addLongLength_31
  unfold lenJ at hl hp
  rw [List.length_append, loB_len] at hl
  rw [pk_sub ha, ni_shr (by omega) (by omega), show (1 : Int32) = nI 1 from rfl, pk_sub h1, show (4 : Int32) = nI 4 from rfl, pk_mul, show (265 : Int32) = nI 265 from rfl, nI_add, nI_add]
  have hd := dv4 h0 (show l - (3 + 4 * 2 ^ j) < 4 * 2 ^ j by omega)
  have hd0 := Nat.zero_le ((l - (3 + 4 * 2 ^ j)) / 2 ^ j)
  refine w_runSign hn (by omega) (by omega) ho (by omega) hr (fun ob' hr' => ?_)
  refine w_loBits hn (by omega) (by omega) (pBs_ok _ ho) (by rw [pBs_len _ ho]; omega) hr' ?_
  rw [← pBs_app]
  exact hp
theorem w_longLen_5 {n : Nat → Nat} {l j : Nat} {st : List Nat × List Bool} {ob : Nat → Int32} {post : Int32 × Int32 × Int32 × (Nat → Int32) → Prop} (hn : n 11 < 2 ^ 31) (h5 : j ≤ 5) (ha : 3 + 4 * 2 ^ j ≤ l) (hb : l < 3 + 8 * 2 ^ j) (ho : okS st) (hl : blen st + (lenJ l j).length ≤ 8 * n 11) (hr : Rep st.1 ob) (hp : PO post (pBs st (lenJ l j))) :
    ∀ (k i : Nat), 1 ≤ i → i + k = j → wp_Pak_addLongLength_5 n (nI l) post (k + 1) (nI st.1.length) (nI (bitsVal st.2)) (nI st.2.length) ob (nI i) (nI (3 + 4 * 2 ^ i)) := by
  have hp2 := p2_lt (k := j) (by omega)
  intro k
  induction k with
  | zero =>
    intro i h1 hi
    have e : i = j := by omega
    subst e
    have fin := w_longLen_31 hn h1 h5 ha hb ho hl hr hp
    unfold wp_Pak_addLongLength_5
    refine ⟨fun _ => fin, fun _ => ?_⟩
    rw [show (4 : Int32) = nI 4 from rfl, ni_shl (by omega) (by omega), nI_add]
    exact ⟨fun _ => fin, fun h => absurd (nI_lt (by omega) (by omega)) h⟩
  | succ k ih =>
    intro i h1 hi
    have hle : 2 ^ (i + 1) ≤ 2 ^ j := Nat.pow_le_pow_right (by decide) (by omega)
    have e2 : 2 ^ (i + 1) = 2 ^ i * 2 := Nat.pow_succ 2 i
    unfold wp_Pak_addLongLength_5
    refine ⟨fun h => absurd h (nI_ge (show i < 5 by omega) (by decide)), fun _ => ?_⟩
    rw [show (4 : Int32) = nI 4 from rfl, ni_shl (by omega) (by omega), nI_add]
    refine ⟨fun h => absurd h (nI_nlt (by omega) (by omega)), fun _ => ?_⟩
    intro z7 h7 z8 h8
    rw [h7, h8, nI_1, show 3 + 4 * 2 ^ i + 4 * 2 ^ i = 3 + 4 * 2 ^ (i + 1) by omega]
    exact ih (i + 1) (by omega) (by omega)
theorem w_length {n : Nat → Nat} {l : Nat} {st : List Nat × List Bool} {ob : Nat → Int32} {post : Int32 × Int32 × Int32 × (Nat → Int32) → Prop} (hn : n 11 < 2 ^ 31) (h3 : 3 ≤ l) (h8 : l ≤ 258) (ho : okS st) (hl : blen st + (lenB l).length ≤ 8 * n 11) (hr : Rep st.1 ob) (hp : PO post (pBs st (lenB l))) :
    wp_Pak_addLength n (nI st.1.length) (nI (bitsVal st.2)) (nI st.2.length) ob (nI l) post := by
  unfold wp_Pak_addLength
  refine ⟨fun h => ?_, fun h => ?_⟩
  · have g : ¬ l < 11 := fun q => absurd h (nI_ge q (by decide))
    refine ⟨fun h2 => ?_, fun h2 => ?_⟩
    · have g2 : l ≠ 258 := fun q => h2 (by rw [q]; rfl)
      obtain ⟨j, j1, j5, ja, jb, je⟩ := lenB_j (l := l) (by omega) (by omega)
      rw [je] at hl hp
      unfold wp_Pak_addLongLength
      exact ⟨_, w_longLen_5 hn j5 ja jb ho hl hr hp (j - 1) 1 (by decide) (by omega)⟩
    · have g2 : l = 258 := (nI_eq (by omega) (by decide)).mp h2
      unfold lenB at hl hp
      rw [if_neg g, if_pos g2] at hl hp
      exact w_runSign (s := 285) hn (by decide) (by decide) ho hl hr hp
  · have g : l < 11 := Nat.lt_of_not_le (fun q => h (nI_le q (by omega)))
    unfold lenB at hl hp
    rw [if_pos g] at hl hp
    rw [show (257 : Int32) = nI 257 from rfl, nI_add, show (3 : Int32) = nI 3 from rfl, pk_sub (by omega)]
    exact w_runSign hn (by omega) (by omega) ho hl hr hp
theorem w_dist_48 {n : Nat → Nat} {d j : Nat} {st : List Nat × List Bool} {ob : Nat → Int32} {post : Int32 × Int32 × Int32 × (Nat → Int32) → Prop} (hn : n 11 < 2 ^ 31) (h1 : 1 ≤ j) (h5 : j ≤ 13) (ha : 1 + 2 * 2 ^ j ≤ d) (hb : d < 1 + 4 * 2 ^ j) (ho : okS st) (hl : blen st + (dstJ d j).length ≤ 8 * n 11) (hr : Rep st.1 ob) (hp : PO post (pBs st (dstJ d j))) :
    wp_Pak_addDistance_48 n (nI d) post (nI st.1.length) (nI (bitsVal st.2)) (nI st.2.length) ob (nI j) (nI (1 + 2 * 2 ^ j)) := by
  have hp2 := p2_lt (k := j) (by omega)
  have h0 : 0 < 2 ^ j := Nat.pow_pos (by decide)
  unfold wp_Pak_addDistance_48
  unfold dstJ at hl hp
  rw [List.length_append, loB_len, hiB_len] at hl
  rw [pk_sub ha, ni_shr (by omega) (by omega), show (1 : Int32) = nI 1 from rfl, pk_sub h1, show (2 : Int32) = nI 2 from rfl, pk_mul, show (4 : Int32) = nI 4 from rfl, nI_add, nI_add]
  have hd := dv2 h0 (show d - (1 + 2 * 2 ^ j) < 2 * 2 ^ j by omega)
  refine w_hiBits (k := 5) hn (by omega) (by decide) ho (by omega) hr (fun ob' hr' => ?_)
  refine w_loBits hn (by omega) (by omega) (pBs_ok _ ho) (by rw [pBs_len _ ho, hiB_len]; omega) hr' ?_
  rw [← pBs_app]
  exact hp
theorem w_dist_21 {n : Nat → Nat} {d j : Nat} {st : List Nat × List Bool} {ob : Nat → Int32} {post : Int32 × Int32 × Int32 × (Nat → Int32) → Prop} (hn : n 11 < 2 ^ 31) (h5 : j ≤ 13) (ha : 1 + 2 * 2 ^ j ≤ d) (hb : d < 1 + 4 * 2 ^ j) (ho : okS st) (hl : blen st + (dstJ d j).length ≤ 8 * n 11) (hr : Rep st.1 ob) (hp : PO post (pBs st (dstJ d j))) :
    ∀ (k i : Nat), 1 ≤ i → i + k = j → wp_Pak_addDistance_21 n (nI d) post (k + 1) (nI st.1.length) (nI (bitsVal st.2)) (nI st.2.length) ob (nI i) (nI (1 + 2 * 2 ^ i)) := by
  have hp2 := p2_lt (k := j) (by omega)
  intro k
  induction k with
  | zero =>
    intro i h1 hi
    have e : i = j := by omega
    subst e
    have fin := w_dist_48 hn h1 h5 ha hb ho hl hr hp
    unfold wp_Pak_addDistance_21
    refine ⟨fun _ => fin, fun _ => ?_⟩
    rw [show (2 : Int32) = nI 2 from rfl, ni_shl (by omega) (by omega), nI_add]
    exact ⟨fun _ => fin, fun h => absurd (nI_lt (by omega) (by omega)) h⟩
  | succ k ih =>
    intro i h1 hi
    have hle : 2 ^ (i + 1) ≤ 2 ^ j := Nat.pow_le_pow_right (by decide) (by omega)
    have e2 : 2 ^ (i + 1) = 2 ^ i * 2 := Nat.pow_succ 2 i
    unfold wp_Pak_addDistance_21
    refine ⟨fun h => absurd h (nI_ge (show i < 13 by omega) (by decide)), fun _ => ?_⟩
    rw [show (2 : Int32) = nI 2 from rfl, ni_shl (by omega) (by omega), nI_add]
    refine ⟨fun h => absurd h (nI_nlt (by omega) (by omega)), fun _ => ?_⟩
    intro z7 h7 z8 h8
    rw [h7, h8, nI_1, show 1 + 2 * 2 ^ i + 2 * 2 ^ i = 1 + 2 * 2 ^ (i + 1) by omega]
    exact ih (i + 1) (by omega) (by omega)
theorem w_distance {n : Nat → Nat} {d : Nat} {st : List Nat × List Bool} {ob : Nat → Int32} {post : Int32 × Int32 × Int32 × (Nat → Int32) → Prop} (hn : n 11 < 2 ^ 31) (h1 : 1 ≤ d) (h8 : d ≤ 32768) (ho : okS st) (hl : blen st + (dstB d).length ≤ 8 * n 11) (hr : Rep st.1 ob) (hp : PO post (pBs st (dstB d))) :
    wp_Pak_addDistance n (nI st.1.length) (nI (bitsVal st.2)) (nI st.2.length) ob (nI d) post := by
  unfold wp_Pak_addDistance
  refine ⟨fun h => ?_, fun h => ?_⟩
  · have g : ¬ d < 5 := fun q => absurd h (nI_ge q (by decide))
    obtain ⟨j, j1, j5, ja, jb, je⟩ := dstB_j (d := d) (by omega) (by omega)
    rw [je] at hl hp
    exact ⟨_, w_dist_21 hn j5 ja jb ho hl hr hp (j - 1) 1 (by decide) (by omega)⟩
  · have g : d < 5 := Nat.lt_of_not_le (fun q => h (nI_le q (by omega)))
    unfold dstB at hl hp
    rw [if_pos g] at hl hp
    rw [hiB_len] at hl
    rw [show (1 : Int32) = nI 1 from rfl, pk_sub h1]
    exact w_hiBits (k := 5) hn (by omega) (by decide) ho hl hr hp
/-! the reference -/
theorem m_len_43 {n : Nat → Nat} {l j : Nat} {st : List Nat × List Bool} {mf : Nat → Int32} {post : Int32 × Int32 × (Nat → Int32) → Prop} (hn : n 17 < 2 ^ 31) (h5 : j ≤ 5) (ha : 3 + 4 * 2 ^ j ≤ l) (hb : l < 3 + 8 * 2 ^ j) (ho : okS st) (hl : blen st + (lenJ l j).length ≤ 8 * n 17) (hr : Rep (fin st) mf) (hp : PM post (pBs st (lenJ l j))) :
    ∀ (k i : Nat), 1 ≤ i → i + k = j → wp_Mod_length_43 n (nI l) post (k + 1) (nI (fin st).length) (nI st.2.length) mf (nI i) (nI (3 + 4 * 2 ^ i)) (nI (265 + 4 * (i - 1))) := by
  have hp2 := p2_lt (k := j) (by omega)
  intro k
  induction k with
  | zero =>
    intro i h1 hi
    have e : i = j := by omega
    subst e
    have h0 : 0 < 2 ^ i := Nat.pow_pos (by decide)
    unfold wp_Mod_length_43
    have hs : nI (3 + 4 * 2 ^ i) + 4 * ((1 : Int32) <<< (nI i &&& 31)) = nI (3 + 8 * 2 ^ i) := by
      rw [show (1 : Int32) = nI 1 from rfl, ni_shl (by omega) (by omega), show (4 : Int32) = nI 4 from rfl, pk_mul, nI_add]
      congr 1; omega
    rw [hs]
    refine ⟨fun _ => ?_, fun h => absurd (nI_lt (by omega) (by omega)) h⟩
    unfold lenJ at hl hp
    rw [List.length_append, loB_len] at hl
    rw [pk_sub ha, ni_shr (by omega) (by omega), nI_add, ni_mask (by omega) (by omega)]
    have hd := dv4 h0 (show l - (3 + 4 * 2 ^ i) < 4 * 2 ^ i by omega)
    refine m_sign hn (by omega) ho (by omega) hr (fun mf' hr' => ?_)
    refine m_lo hn (Nat.lt_of_le_of_lt (Nat.mod_le _ _) (by omega)) (by omega) (pBs_ok _ ho) (by rw [pBs_len _ ho]; omega) hr' ?_
    rw [loB_mod _ _ (by omega), ← pBs_app]
    exact hp
  | succ k ih =>
    intro i h1 hi
    have hle : 2 ^ (i + 1) ≤ 2 ^ j := Nat.pow_le_pow_right (by decide) (by omega)
    have e2 : 2 ^ (i + 1) = 2 ^ i * 2 := Nat.pow_succ 2 i
    unfold wp_Mod_length_43
    have hs : nI (3 + 4 * 2 ^ i) + 4 * ((1 : Int32) <<< (nI i &&& 31)) = nI (3 + 4 * 2 ^ (i + 1)) := by
      rw [show (1 : Int32) = nI 1 from rfl, ni_shl (by omega) (by omega), show (4 : Int32) = nI 4 from rfl, pk_mul, nI_add]
      congr 1; omega
    rw [hs]
    refine ⟨fun h => absurd h (nI_nlt (by omega) (by omega)), fun _ => ?_⟩
    intro z7 h7 z8 h8 z9 h9
    rw [h7, h8, h9, nI_1, show (4 : Int32) = nI 4 from rfl, nI_add, show 265 + 4 * (i - 1) + 4 = 265 + 4 * (i + 1 - 1) by omega]
    exact ih (i + 1) (by omega) (by omega)
theorem m_length {n : Nat → Nat} {l : Nat} {st : List Nat × List Bool} {mf : Nat → Int32} {post : Int32 × Int32 × (Nat → Int32) → Prop} (hn : n 17 < 2 ^ 31) (h3 : 3 ≤ l) (h8 : l ≤ 258) (ho : okS st) (hl : blen st + (lenB l).length ≤ 8 * n 17) (hr : Rep (fin st) mf) (hp : PM post (pBs st (lenB l))) :
    wp_Mod_length n (nI (fin st).length) (nI st.2.length) mf (nI l) post := by
  unfold wp_Mod_length
  refine ⟨fun h2 => ⟨fun h => ?_, fun h => ?_⟩, fun h2 => ?_⟩
  · have g : ¬ l < 11 := fun q => absurd h (nI_ge q (by decide))
    have g2 : l ≠ 258 := fun q => h2 (by rw [q]; rfl)
    obtain ⟨j, j1, j5, ja, jb, je⟩ := lenB_j (l := l) (by omega) (by omega)
    rw [je] at hl hp
    exact ⟨_, m_len_43 hn j5 ja jb ho hl hr hp (j - 1) 1 (by decide) (by omega)⟩
  · have g : l < 11 := Nat.lt_of_not_le (fun q => h (nI_le q (by omega)))
    unfold lenB at hl hp
    rw [if_pos g] at hl hp
    rw [show (257 : Int32) = nI 257 from rfl, nI_add, show (3 : Int32) = nI 3 from rfl, pk_sub (by omega)]
    exact m_sign hn (by omega) ho hl hr hp
  · have g2 : l = 258 := (nI_eq (by omega) (by decide)).mp h2
    unfold lenB at hl hp
    rw [if_neg (by omega), if_pos g2] at hl hp
    exact m_sign (s := 285) hn (by decide) ho hl hr hp
theorem m_dist_21 {n : Nat → Nat} {d j : Nat} {st : List Nat × List Bool} {mf : Nat → Int32} {post : Int32 × Int32 × (Nat → Int32) → Prop} (hn : n 17 < 2 ^ 31) (h5 : j ≤ 13) (ha : 1 + 2 * 2 ^ j ≤ d) (hb : d < 1 + 4 * 2 ^ j) (ho : okS st) (hl : blen st + (dstJ d j).length ≤ 8 * n 17) (hr : Rep (fin st) mf) (hp : PM post (pBs st (dstJ d j))) :
    ∀ (k i : Nat), 1 ≤ i → i + k = j → wp_Mod_distance_21 n (nI d) post (k + 1) (nI (fin st).length) (nI st.2.length) mf (nI i) (nI (1 + 2 * 2 ^ i)) (nI (4 + 2 * (i - 1))) := by
  have hp2 := p2_lt (k := j) (by omega)
  intro k
  induction k with
  | zero =>
    intro i h1 hi
    have e : i = j := by omega
    subst e
    have h0 : 0 < 2 ^ i := Nat.pow_pos (by decide)
    unfold wp_Mod_distance_21
    have hs : nI (1 + 2 * 2 ^ i) + 2 * ((1 : Int32) <<< (nI i &&& 31)) = nI (1 + 4 * 2 ^ i) := by
      rw [show (1 : Int32) = nI 1 from rfl, ni_shl (by omega) (by omega), show (2 : Int32) = nI 2 from rfl, pk_mul, nI_add]
      congr 1; omega
    rw [hs]
    refine ⟨fun _ => ?_, fun h => absurd (nI_lt (by omega) (by omega)) h⟩
    unfold dstJ at hl hp
    rw [List.length_append, loB_len, hiB_len] at hl
    rw [pk_sub ha, ni_shr (by omega) (by omega), nI_add, ni_mask (by omega) (by omega)]
    have hd := dv2 h0 (show d - (1 + 2 * 2 ^ i) < 2 * 2 ^ i by omega)
    refine m_hi (k := 5) hn (by omega) (by decide) ho (by omega) hr (fun mf' hr' => ?_)
    refine m_lo hn (Nat.lt_of_le_of_lt (Nat.mod_le _ _) (by omega)) (by omega) (pBs_ok _ ho) (by rw [pBs_len _ ho, hiB_len]; omega) hr' ?_
    rw [loB_mod _ _ (by omega), ← pBs_app]
    exact hp
  | succ k ih =>
    intro i h1 hi
    have hle : 2 ^ (i + 1) ≤ 2 ^ j := Nat.pow_le_pow_right (by decide) (by omega)
    have e2 : 2 ^ (i + 1) = 2 ^ i * 2 := Nat.pow_succ 2 i
    unfold wp_Mod_distance_21
    have hs : nI (1 + 2 * 2 ^ i) + 2 * ((1 : Int32) <<< (nI i &&& 31)) = nI (1 + 2 * 2 ^ (i + 1)) := by
      rw [show (1 : Int32) = nI 1 from rfl, ni_shl (by omega) (by omega), show (2 : Int32) = nI 2 from rfl, pk_mul, nI_add]
      congr 1; omega
    rw [hs]
    refine ⟨fun h => absurd h (nI_nlt (by omega) (by omega)), fun _ => ?_⟩
    intro z7 h7 z8 h8 z9 h9
    rw [h7, h8, h9, nI_1, show (2 : Int32) = nI 2 from rfl, nI_add, show 4 + 2 * (i - 1) + 2 = 4 + 2 * (i + 1 - 1) by omega]
    exact ih (i + 1) (by omega) (by omega)
theorem m_distance {n : Nat → Nat} {d : Nat} {st : List Nat × List Bool} {mf : Nat → Int32} {post : Int32 × Int32 × (Nat → Int32) → Prop} (hn : n 17 < 2 ^ 31) (h1 : 1 ≤ d) (h8 : d ≤ 32768) (ho : okS st) (hl : blen st + (dstB d).length ≤ 8 * n 17) (hr : Rep (fin st) mf) (hp : PM post (pBs st (dstB d))) :
    wp_Mod_distance n (nI (fin st).length) (nI st.2.length) mf (nI d) post := by
  unfold wp_Mod_distance
  refine ⟨fun h => ?_, fun h => ?_⟩
  · have g : ¬ d < 5 := fun q => absurd h (nI_ge q (by decide))
    obtain ⟨j, j1, j5, ja, jb, je⟩ := dstB_j (d := d) (by omega) (by omega)
    rw [je] at hl hp
    exact ⟨_, m_dist_21 hn j5 ja jb ho hl hr hp (j - 1) 1 (by decide) (by omega)⟩
  · have g : d < 5 := Nat.lt_of_not_le (fun q => h (nI_le q (by omega)))
    unfold dstB at hl hp
    rw [if_pos g] at hl hp
    rw [hiB_len] at hl
    rw [show (1 : Int32) = nI 1 from rfl, pk_sub h1]
    exact m_hi (k := 5) hn (by omega) (by decide) ho hl hr hp
