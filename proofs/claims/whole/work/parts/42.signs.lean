/-! PURE: the bits of lengths and distances, both sides -/
theorem ni_shl {v k : Nat} (hk : k < 32) (h : v * 2 ^ k < 2 ^ 32) : nI v <<< (nI k &&& 31) = nI (v * 2 ^ k) := pk_shlN _ k (ni_sl k hk) h
theorem ni_shr {v k : Nat} (hk : k < 32) (h : v < 2 ^ 31) : nI v >>> (nI k &&& 31) = nI (v / 2 ^ k) := pk_shrN h _ k (ni_sl k hk)
theorem p2_lt {k : Nat} (h : k ≤ 20) : 2 ^ k ≤ 1048576 := Nat.pow_le_pow_right (by decide) h
theorem ni_mask {v k : Nat} (hv : v < 2 ^ 31) (hk : k ≤ 20) : nI v &&& ((1 : Int32) <<< (nI k &&& 31) - 1) = nI (v % 2 ^ k) := by
  have h1 := p2_lt hk
  have h0 : 0 < 2 ^ k := Nat.pow_pos (by decide)
  rw [show (1 : Int32) <<< (nI k &&& 31) = nI (1 * 2 ^ k) from ni_shl (by omega) (by rw [Nat.one_mul]; omega), Nat.one_mul, show (1 : Int32) = nI 1 from rfl, pk_sub h0]
  exact pk_andN (by omega) k (pk_tn (by omega))
theorem loB_mod {v m : Nat} : ∀ (k i : Nat), i + k ≤ m → loB (v % 2 ^ m) i k = loB v i k
  | 0, _, _ => rfl
  | k + 1, i, h => by
    rw [loB, loB, loB_mod k (i + 1) (by omega), Nat.testBit_mod_two_pow]
    simp [show i < m by omega]
/-- a length from 11 on whose sign has j bits more; a distance from 5 on -/
def lenJ (l j : Nat) : List Bool := signB (265 + 4 * (j - 1) + (l - (3 + 4 * 2 ^ j)) / 2 ^ j) ++ loB (l - (3 + 4 * 2 ^ j)) 0 j
def lenB (l : Nat) : List Bool := if l < 11 then signB (257 + l - 3) else if l = 258 then signB 285 else lenJ l (((l - 3) / 4).log2)
def dstJ (d j : Nat) : List Bool := hiB (4 + 2 * (j - 1) + (d - (1 + 2 * 2 ^ j)) / 2 ^ j) 5 ++ loB (d - (1 + 2 * 2 ^ j)) 0 j
def dstB (d : Nat) : List Bool := if d < 5 then hiB (d - 1) 5 else dstJ d (((d - 1) / 2).log2)
theorem lenB_j {l : Nat} (h : 11 ≤ l) (h2 : l < 258) : ∃ j, 1 ≤ j ∧ j ≤ 5 ∧ 3 + 4 * 2 ^ j ≤ l ∧ l < 3 + 8 * 2 ^ j ∧ lenB l = lenJ l j := by
  have h0 : (l - 3) / 4 ≠ 0 := by omega
  have a1 := Nat.log2_self_le h0
  have a2 := Nat.lt_log2_self (n := (l - 3) / 4)
  refine ⟨((l - 3) / 4).log2, ?_, ?_, ?_, ?_, ?_⟩
  · exact (Nat.le_log2 h0).mpr (by omega)
  · exact Nat.le_of_lt_succ ((Nat.log2_lt h0).mpr (by omega))
  · omega
  · rw [Nat.pow_succ] at a2; omega
  · unfold lenB
    rw [if_neg (by omega), if_neg (by omega)]
theorem dstB_j {d : Nat} (h : 5 ≤ d) (h2 : d ≤ 32768) : ∃ j, 1 ≤ j ∧ j ≤ 13 ∧ 1 + 2 * 2 ^ j ≤ d ∧ d < 1 + 4 * 2 ^ j ∧ dstB d = dstJ d j := by
  have h0 : (d - 1) / 2 ≠ 0 := by omega
  have a1 := Nat.log2_self_le h0
  have a2 := Nat.lt_log2_self (n := (d - 1) / 2)
  refine ⟨((d - 1) / 2).log2, ?_, ?_, ?_, ?_, ?_⟩
  · exact (Nat.le_log2 h0).mpr (by omega)
  · exact Nat.le_of_lt_succ ((Nat.log2_lt h0).mpr (by omega))
  · omega
  · rw [Nat.pow_succ] at a2; omega
  · unfold dstB
    rw [if_neg (by omega)]
theorem dv4 {x p : Nat} (hp : 0 < p) (h : x < 4 * p) : x / p < 4 := Nat.div_lt_of_lt_mul (by rw [Nat.mul_comm]; exact h)
theorem dv2 {x p : Nat} (hp : 0 < p) (h : x < 2 * p) : x / p < 2 := Nat.div_lt_of_lt_mul (by rw [Nat.mul_comm]; exact h)
/-! the class -/
theorem w_runSign {n : Nat → Nat} {s : Nat} {st : List Nat × List Bool} {ob : Nat → Int32} {post : Int32 × Int32 × Int32 × (Nat → Int32) → Prop} (hn : n 11 < 2 ^ 31) (hs0 : 256 ≤ s) (hs : s < 286) (ho : okS st) (hl : blen st + (signB s).length ≤ 8 * n 11) (hr : Rep st.1 ob) (hp : PO post (pBs st (signB s))) :
    wp_Pak_addRunSign n (nI st.1.length) (nI (bitsVal st.2)) (nI st.2.length) ob (nI s) post := by
  unfold wp_Pak_addRunSign
  unfold signB at hl hp
  rw [if_neg (by omega), if_neg (by omega)] at hl hp
  refine ⟨fun h3 => ?_, fun h3 => ?_⟩
  · have g3 : ¬ s < 280 := fun q => absurd h3 (nI_ge q (by decide))
    rw [if_neg g3, hiB_len] at hl
    rw [if_neg g3] at hp
    rw [show (192 : Int32) = nI 192 from rfl, nI_add, show (280 : Int32) = nI 280 from rfl, pk_sub (by omega)]
    exact w_hiBits (k := 8) hn (by omega) (by decide) ho hl hr hp
  · have g3 : s < 280 := Nat.lt_of_not_le (fun q => h3 (nI_le q (by omega)))
    rw [if_pos g3, hiB_len] at hl
    rw [if_pos g3] at hp
    rw [show (256 : Int32) = nI 256 from rfl, pk_sub (by omega)]
    exact w_hiBits (k := 7) hn (by omega) (by decide) ho hl hr hp
/-- how many of the lowest bits go: j, where what is left is below L and at j - 1 was not -/
theorem w_moreBits {n : Nat → Nat} {v L j : Nat} {post : Int32 → Unit → Prop} (hv : v < 2 ^ 31) (hj : j ≤ 13) (hL : L < 2 ^ 31) (ha : v < L * 2 ^ j) (hb : ∀ i, i < j → L * 2 ^ i ≤ v) (hp : post (nI j) ()) : wp_Pak_moreBits n (nI v) (nI L) post := by
  have loop : ∀ (k i : Nat), i + k = j → wp_Pak_moreBits_2 n (nI v) (nI L) post (k + 1) (nI i) := by
    intro k
    induction k with
    | zero =>
      intro i hi
      have e : i = j := by omega
      subst e
      unfold wp_Pak_moreBits_2
      refine ⟨fun _ => hp, fun _ => ⟨fun _ => hp, fun h => ?_⟩⟩
      rw [ni_shr (by omega) hv] at h
      have : v / 2 ^ i < L := Nat.div_lt_of_lt_mul (by rw [Nat.mul_comm]; exact ha)
      exact absurd (nI_lt this hL) h
    | succ k ih =>
      intro i hi
      have h1 := hb i (by omega)
      have h0 : 0 < 2 ^ i := Nat.pow_pos (by decide)
      have h2 : L ≤ v / 2 ^ i := (Nat.le_div_iff_mul_le h0).mpr h1
      have h3 : v / 2 ^ i ≤ v := Nat.div_le_self _ _
      unfold wp_Pak_moreBits_2
      refine ⟨fun h => absurd h (nI_ge (show i < 13 by omega) (by decide)), fun _ => ⟨fun h => ?_, fun _ => ?_⟩⟩
      · rw [ni_shr (by omega) hv] at h
        exact absurd h (nI_nlt h2 (by omega))
      · intro z hz
        rw [hz, nI_1]
        exact ih (i + 1) (by omega)
  unfold wp_Pak_moreBits
  exact ⟨_, loop j 0 (by omega)⟩
theorem div_sub {x a p : Nat} (hp : 0 < p) (h : a * p ≤ x) : x / p = a + (x - a * p) / p := by
  have e : x = (x - a * p) + a * p := by omega
  calc x / p = ((x - a * p) + a * p) / p := by rw [← e]
    _ = (x - a * p) / p + a := Nat.add_mul_div_right _ _ hp
    _ = _ := Nat.add_comm _ _
theorem mod_sub {x a p : Nat} (h : a * p ≤ x) : (x - a * p) % p = x % p := by
  have e : x = (x - a * p) + a * p := by omega
  calc (x - a * p) % p = ((x - a * p) + a * p) % p := (Nat.add_mul_mod_self_right _ _ _).symm
    _ = x % p := by rw [← e]
/-- the class's rule for a length: one j for the short and the long -/
theorem lenB_k {l : Nat} (h : 3 ≤ l) (h2 : l < 258) : ∃ j, j ≤ 5 ∧ l - 3 < 8 * 2 ^ j ∧ (∀ i, i < j → 8 * 2 ^ i ≤ l - 3) ∧ signB (257 + 4 * j + (l - 3) / 2 ^ j) ++ loB (l - 3) 0 j = lenB l := by
  rcases Nat.lt_or_ge l 11 with q | q
  · refine ⟨0, by decide, by omega, fun i h => absurd h (Nat.not_lt_zero i), ?_⟩
    unfold lenB
    rw [if_pos q, show loB (l - 3) 0 0 = [] from rfl, List.append_nil, Nat.pow_zero, Nat.div_one]
    congr 1
    omega
  · obtain ⟨j, j1, j5, ja, jb, je⟩ := lenB_j q h2
    have h0 : 0 < 2 ^ j := Nat.pow_pos (by decide)
    refine ⟨j, j5, by omega, fun i hi => ?_, ?_⟩
    · have h3 : 2 ^ (i + 1) ≤ 2 ^ j := Nat.pow_le_pow_right (by decide) hi
      rw [Nat.pow_succ] at h3
      omega
    · rw [je]
      unfold lenJ
      have ex : l - (3 + 4 * 2 ^ j) = l - 3 - 4 * 2 ^ j := by omega
      rw [ex, div_sub (a := 4) h0 (show 4 * 2 ^ j ≤ l - 3 by omega)]
      have e1 : 257 + 4 * j + (4 + (l - 3 - 4 * 2 ^ j) / 2 ^ j) = 265 + 4 * (j - 1) + (l - 3 - 4 * 2 ^ j) / 2 ^ j := by omega
      rw [e1]
      congr 1
      rw [← loB_mod (v := l - 3) (m := j) j 0 (by omega), ← loB_mod (v := l - 3 - 4 * 2 ^ j) (m := j) j 0 (by omega), mod_sub (by omega)]
theorem dstB_k {d : Nat} (h : 1 ≤ d) (h2 : d ≤ 32768) : ∃ j, j ≤ 13 ∧ d - 1 < 4 * 2 ^ j ∧ (∀ i, i < j → 4 * 2 ^ i ≤ d - 1) ∧ hiB (2 * j + (d - 1) / 2 ^ j) 5 ++ loB (d - 1) 0 j = dstB d := by
  rcases Nat.lt_or_ge d 5 with q | q
  · refine ⟨0, by decide, by omega, fun i h => absurd h (Nat.not_lt_zero i), ?_⟩
    unfold dstB
    rw [if_pos q, show loB (d - 1) 0 0 = [] from rfl, List.append_nil, Nat.pow_zero, Nat.div_one]
    congr 1
    omega
  · obtain ⟨j, j1, j5, ja, jb, je⟩ := dstB_j q h2
    have h0 : 0 < 2 ^ j := Nat.pow_pos (by decide)
    refine ⟨j, j5, by omega, fun i hi => ?_, ?_⟩
    · have h3 : 2 ^ (i + 1) ≤ 2 ^ j := Nat.pow_le_pow_right (by decide) hi
      rw [Nat.pow_succ] at h3
      omega
    · rw [je]
      unfold dstJ
      have ex : d - (1 + 2 * 2 ^ j) = d - 1 - 2 * 2 ^ j := by omega
      rw [ex, div_sub (a := 2) h0 (show 2 * 2 ^ j ≤ d - 1 by omega)]
      have e1 : 2 * j + (2 + (d - 1 - 2 * 2 ^ j) / 2 ^ j) = 4 + 2 * (j - 1) + (d - 1 - 2 * 2 ^ j) / 2 ^ j := by omega
      rw [e1]
      congr 1
      rw [← loB_mod (v := d - 1) (m := j) j 0 (by omega), ← loB_mod (v := d - 1 - 2 * 2 ^ j) (m := j) j 0 (by omega), mod_sub (by omega)]
theorem w_distance {n : Nat → Nat} {d : Nat} {st : List Nat × List Bool} {ob : Nat → Int32} {post : Int32 × Int32 × Int32 × (Nat → Int32) → Prop} (hn : n 11 < 2 ^ 31) (h1 : 1 ≤ d) (h8 : d ≤ 32768) (ho : okS st) (hl : blen st + (dstB d).length ≤ 8 * n 11) (hr : Rep st.1 ob) (hp : PO post (pBs st (dstB d))) :
    wp_Pak_addDistance n (nI st.1.length) (nI (bitsVal st.2)) (nI st.2.length) ob (nI (d - 1)) post := by
  obtain ⟨j, j5, ja, jb, je⟩ := dstB_k h1 h8
  have hp2 := p2_lt (k := j) (by omega)
  have h0 : 0 < 2 ^ j := Nat.pow_pos (by decide)
  have hdv : (d - 1) / 2 ^ j < 4 := Nat.div_lt_of_lt_mul (by rw [Nat.mul_comm]; exact ja)
  rw [← je] at hl hp
  rw [List.length_append, loB_len, hiB_len] at hl
  unfold wp_Pak_addDistance
  refine w_moreBits (L := 4) (j := j) (by omega) j5 (by decide) ja jb ?_
  rw [ni_shr (by omega) (by omega), show (2 : Int32) = nI 2 from rfl, pk_mul, nI_add]
  refine w_hiBits (k := 5) hn (by omega) (by decide) ho (by omega) hr (fun ob' hr' => ?_)
  refine w_loBits hn (by omega) (by omega) (pBs_ok _ ho) (by rw [pBs_len _ ho, hiB_len]; omega) hr' ?_
  rw [← pBs_app]
  exact hp
/-! the reference -/
theorem m_len_43 {n : Nat → Nat} {l j : Nat} {st : List Nat × List Bool} {mf : Nat → Int32} {post : Int32 × Int32 × (Nat → Int32) → Prop} (hn : n 17 < 2 ^ 31) (h5 : j ≤ 5) (ha : 3 + 4 * 2 ^ j ≤ l) (hb : l < 3 + 8 * 2 ^ j) (ho : okS st) (hl : blen st + (lenJ l j).length ≤ 8 * n 17) (hr : Rep (fin st) mf) (hp : PM post (pBs st (lenJ l j))) :
    ∀ (k i : Nat), 1 ≤ i → i + k = j → wp_Mod_length_43 n (nI l) post (k + 1) (nI (fin st).length) (nI st.2.length) mf (nI i) (nI (3 + 4 * 2 ^ i)) (nI (265 + 4 * (i - 1))) := by
  have hp2 := p2_lt (k := j) (by omega)
  intro k
  induction k with
  | zero =>
    intro i h1 hi
    have e : i = j := by omega
    subst e
    have h0 : 0 < 2 ^ i := Nat.pow_pos (by decide)
    unfold wp_Mod_length_43
    have hs : nI (3 + 4 * 2 ^ i) + 4 * ((1 : Int32) <<< (nI i &&& 31)) = nI (3 + 8 * 2 ^ i) := by
      rw [show (1 : Int32) = nI 1 from rfl, ni_shl (by omega) (by omega), show (4 : Int32) = nI 4 from rfl, pk_mul, nI_add]
      congr 1; omega
    rw [hs]
    refine ⟨fun _ => ?_, fun h => absurd (nI_lt (by omega) (by omega)) h⟩
    unfold lenJ at hl hp
    rw [List.length_append, loB_len] at hl
    rw [pk_sub ha, ni_shr (by omega) (by omega), nI_add, ni_mask (by omega) (by omega)]
    have hd := dv4 h0 (show l - (3 + 4 * 2 ^ i) < 4 * 2 ^ i by omega)
    refine m_sign hn (by omega) ho (by omega) hr (fun mf' hr' => ?_)
    refine m_lo hn (Nat.lt_of_le_of_lt (Nat.mod_le _ _) (by omega)) (by omega) (pBs_ok _ ho) (by rw [pBs_len _ ho]; omega) hr' ?_
    rw [loB_mod _ _ (by omega), ← pBs_app]
    exact hp
  | succ k ih =>
    intro i h1 hi
    have hle : 2 ^ (i + 1) ≤ 2 ^ j := Nat.pow_le_pow_right (by decide) (by omega)
    have e2 : 2 ^ (i + 1) = 2 ^ i * 2 := Nat.pow_succ 2 i
    unfold wp_Mod_length_43
    have hs : nI (3 + 4 * 2 ^ i) + 4 * ((1 : Int32) <<< (nI i &&& 31)) = nI (3 + 4 * 2 ^ (i + 1)) := by
      rw [show (1 : Int32) = nI 1 from rfl, ni_shl (by omega) (by omega), show (4 : Int32) = nI 4 from rfl, pk_mul, nI_add]
      congr 1; omega
    rw [hs]
    refine ⟨fun h => absurd h (nI_nlt (by omega) (by omega)), fun _ => ?_⟩
    intro z7 h7 z8 h8 z9 h9
    rw [h7, h8, h9, nI_1, show (4 : Int32) = nI 4 from rfl, nI_add, show 265 + 4 * (i - 1) + 4 = 265 + 4 * (i + 1 - 1) by omega]
    exact ih (i + 1) (by omega) (by omega)
theorem m_length {n : Nat → Nat} {l : Nat} {st : List Nat × List Bool} {mf : Nat → Int32} {post : Int32 × Int32 × (Nat → Int32) → Prop} (hn : n 17 < 2 ^ 31) (h3 : 3 ≤ l) (h8 : l ≤ 258) (ho : okS st) (hl : blen st + (lenB l).length ≤ 8 * n 17) (hr : Rep (fin st) mf) (hp : PM post (pBs st (lenB l))) :
    wp_Mod_length n (nI (fin st).length) (nI st.2.length) mf (nI l) post := by
  unfold wp_Mod_length
  refine ⟨fun h2 => ⟨fun h => ?_, fun h => ?_⟩, fun h2 => ?_⟩
  · have g : ¬ l < 11 := fun q => absurd h (nI_ge q (by decide))
    have g2 : l ≠ 258 := fun q => h2 (by rw [q]; rfl)
    obtain ⟨j, j1, j5, ja, jb, je⟩ := lenB_j (l := l) (by omega) (by omega)
    rw [je] at hl hp
    exact ⟨_, m_len_43 hn j5 ja jb ho hl hr hp (j - 1) 1 (by decide) (by omega)⟩
  · have g : l < 11 := Nat.lt_of_not_le (fun q => h (nI_le q (by omega)))
    unfold lenB at hl hp
    rw [if_pos g] at hl hp
    rw [show (257 : Int32) = nI 257 from rfl, nI_add, show (3 : Int32) = nI 3 from rfl, pk_sub (by omega)]
    exact m_sign hn (by omega) ho hl hr hp
  · have g2 : l = 258 := (nI_eq (by omega) (by decide)).mp h2
    unfold lenB at hl hp
    rw [if_neg (by omega), if_pos g2] at hl hp
    exact m_sign (s := 285) hn (by decide) ho hl hr hp
theorem m_dist_21 {n : Nat → Nat} {d j : Nat} {st : List Nat × List Bool} {mf : Nat → Int32} {post : Int32 × Int32 × (Nat → Int32) → Prop} (hn : n 17 < 2 ^ 31) (h5 : j ≤ 13) (ha : 1 + 2 * 2 ^ j ≤ d) (hb : d < 1 + 4 * 2 ^ j) (ho : okS st) (hl : blen st + (dstJ d j).length ≤ 8 * n 17) (hr : Rep (fin st) mf) (hp : PM post (pBs st (dstJ d j))) :
    ∀ (k i : Nat), 1 ≤ i → i + k = j → wp_Mod_distance_21 n (nI d) post (k + 1) (nI (fin st).length) (nI st.2.length) mf (nI i) (nI (1 + 2 * 2 ^ i)) (nI (4 + 2 * (i - 1))) := by
  have hp2 := p2_lt (k := j) (by omega)
  intro k
  induction k with
  | zero =>
    intro i h1 hi
    have e : i = j := by omega
    subst e
    have h0 : 0 < 2 ^ i := Nat.pow_pos (by decide)
    unfold wp_Mod_distance_21
    have hs : nI (1 + 2 * 2 ^ i) + 2 * ((1 : Int32) <<< (nI i &&& 31)) = nI (1 + 4 * 2 ^ i) := by
      rw [show (1 : Int32) = nI 1 from rfl, ni_shl (by omega) (by omega), show (2 : Int32) = nI 2 from rfl, pk_mul, nI_add]
      congr 1; omega
    rw [hs]
    refine ⟨fun _ => ?_, fun h => absurd (nI_lt (by omega) (by omega)) h⟩
    unfold dstJ at hl hp
    rw [List.length_append, loB_len, hiB_len] at hl
    rw [pk_sub ha, ni_shr (by omega) (by omega), nI_add, ni_mask (by omega) (by omega)]
    have hd := dv2 h0 (show d - (1 + 2 * 2 ^ i) < 2 * 2 ^ i by omega)
    refine m_hi (k := 5) hn (by omega) (by decide) ho (by omega) hr (fun mf' hr' => ?_)
    refine m_lo hn (Nat.lt_of_le_of_lt (Nat.mod_le _ _) (by omega)) (by omega) (pBs_ok _ ho) (by rw [pBs_len _ ho, hiB_len]; omega) hr' ?_
    rw [loB_mod _ _ (by omega), ← pBs_app]
    exact hp
  | succ k ih =>
    intro i h1 hi
    have hle : 2 ^ (i + 1) ≤ 2 ^ j := Nat.pow_le_pow_right (by decide) (by omega)
    have e2 : 2 ^ (i + 1) = 2 ^ i * 2 := Nat.pow_succ 2 i
    unfold wp_Mod_distance_21
    have hs : nI (1 + 2 * 2 ^ i) + 2 * ((1 : Int32) <<< (nI i &&& 31)) = nI (1 + 2 * 2 ^ (i + 1)) := by
      rw [show (1 : Int32) = nI 1 from rfl, ni_shl (by omega) (by omega), show (2 : Int32) = nI 2 from rfl, pk_mul, nI_add]
      congr 1; omega
    rw [hs]
    refine ⟨fun h => absurd h (nI_nlt (by omega) (by omega)), fun _ => ?_⟩
    intro z7 h7 z8 h8 z9 h9
    rw [h7, h8, h9, nI_1, show (2 : Int32) = nI 2 from rfl, nI_add, show 4 + 2 * (i - 1) + 2 = 4 + 2 * (i + 1 - 1) by omega]
    exact ih (i + 1) (by omega) (by omega)
theorem m_distance {n : Nat → Nat} {d : Nat} {st : List Nat × List Bool} {mf : Nat → Int32} {post : Int32 × Int32 × (Nat → Int32) → Prop} (hn : n 17 < 2 ^ 31) (h1 : 1 ≤ d) (h8 : d ≤ 32768) (ho : okS st) (hl : blen st + (dstB d).length ≤ 8 * n 17) (hr : Rep (fin st) mf) (hp : PM post (pBs st (dstB d))) :
    wp_Mod_distance n (nI (fin st).length) (nI st.2.length) mf (nI d) post := by
  unfold wp_Mod_distance
  refine ⟨fun h => ?_, fun h => ?_⟩
  · have g : ¬ d < 5 := fun q => absurd h (nI_ge q (by decide))
    obtain ⟨j, j1, j5, ja, jb, je⟩ := dstB_j (d := d) (by omega) (by omega)
    rw [je] at hl hp
    exact ⟨_, m_dist_21 hn j5 ja jb ho hl hr hp (j - 1) 1 (by decide) (by omega)⟩
  · have g : d < 5 := Nat.lt_of_not_le (fun q => h (nI_le q (by omega)))
    unfold dstB at hl hp
    rw [if_pos g] at hl hp
    rw [hiB_len] at hl
    rw [show (1 : Int32) = nI 1 from rfl, pk_sub h1]
    exact m_hi (k := 5) hn (by omega) (by decide) ho hl hr hp
