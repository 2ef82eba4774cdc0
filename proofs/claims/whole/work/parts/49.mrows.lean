/-! PURE: rows and their filters: the reference -/
def Cols (w h : Nat) (col : Nat → Nat → Nat) (mc : Nat → Int32) : Prop := ∀ x y, x < w → y < h → mc (48 * y + x) = nI (col x y)
def ColB (col : Nat → Nat → Nat) : Prop := ∀ x y, col x y < 16777216
/-- a picture's bytes, with zeros above and before -/
def Qc (col : Nat → Nat → Nat) (r j : Nat) : Nat := if r = 0 ∨ j < 3 then 0 else col ((j - 3) / 3) (r - 1) / 2 ^ (16 - 8 * ((j - 3) % 3)) % 256
theorem Qc_B (col : Nat → Nat → Nat) : QB (Qc col) := by
  intro r j
  unfold Qc
  split
  · decide
  · exact Nat.mod_lt _ (by decide)
theorem Qc_in (col : Nat → Nat → Nat) (y k : Nat) : Qc col (y + 1) (k + 3) = col (k / 3) y / 2 ^ (16 - 8 * (k % 3)) % 256 := by
  unfold Qc
  rw [if_neg (by omega)]
  simp
theorem m_byte {n : Nat → Nat} {w h k y : Nat} {col : Nat → Nat → Nat} {mc : Nat → Int32} {post : Int32 → Unit → Prop} (hd : Dim w h) (h15 : n 15 = 2304) (hB : ColB col) (hC : Cols w h col mc) (hk : k < 3 * w) (hy : y < h) (hp : post (nI (Qc col (y + 1) (k + 3))) ()) : wp_Mod_byteOf n mc (nI k) (nI y) post := by
  obtain ⟨w1, w2, h1, h2⟩ := hd
  unfold wp_Mod_byteOf
  refine ⟨fun q => absurd q (nI_pos (by omega)), fun _ => ⟨fun _ => ?_, fun q => absurd (nI_pos' (by omega)) q⟩⟩
  have hb := hB (k / 3) y
  have hk3 : k % 3 < 3 := Nat.mod_lt _ (by decide)
  rw [show (48 : Int32) = nI 48 from rfl, pk_mul, show (3 : Int32) = nI 3 from rfl, pk_rem (by omega) (by decide) (by decide), pk_div (by omega) (by decide) (by decide), nI_add, show (8 : Int32) = nI 8 from rfl, pk_mul, show (16 : Int32) = nI 16 from rfl, pk_sub (by omega)]
  refine ⟨vp_in_nI (by omega) (by omega), ?_⟩
  rw [nI_clamp (by omega), hC (k / 3) y (by omega) hy, ni_shr (by omega) (by omega), ni_255 (Nat.lt_of_le_of_lt (Nat.div_le_self _ _) (by omega))]
  rw [Qc_in] at hp
  exact hp
theorem m_byteL {n : Nat → Nat} {w h k y : Nat} {col : Nat → Nat → Nat} {mc : Nat → Int32} {post : Int32 → Unit → Prop} (hd : Dim w h) (h15 : n 15 = 2304) (hB : ColB col) (hC : Cols w h col mc) (hk : k < 3 * w) (hy : y < h) (hp : post (nI (Qc col (y + 1) k)) ()) : wp_Mod_byteOf n mc (nI k - 3) (nI y) post := by
  have hw := hd.2.1
  by_cases h3 : k < 3
  · have e : Qc col (y + 1) k = 0 := if_pos (Or.inr h3)
    rw [e] at hp
    unfold wp_Mod_byteOf
    exact ⟨fun _ => hp, fun q => absurd (pk_sneg (b := 3) (by decide) h3) q⟩
  · rw [show (3 : Int32) = nI 3 from rfl, pk_sub (by omega)]
    exact m_byte hd h15 hB hC (by omega) hy (by rw [show k - 3 + 3 = k by omega]; exact hp)
theorem m_byteU {n : Nat → Nat} {w h k y : Nat} {col : Nat → Nat → Nat} {mc : Nat → Int32} {post : Int32 → Unit → Prop} (hd : Dim w h) (h15 : n 15 = 2304) (hB : ColB col) (hC : Cols w h col mc) (hk : k < 3 * w) (hy : y < h) (hp : post (nI (Qc col y (k + 3))) ()) : wp_Mod_byteOf n mc (nI k) (nI y - 1) post := by
  have hw := hd.2.1
  cases y with
  | zero =>
    have e : Qc col 0 (k + 3) = 0 := if_pos (Or.inl rfl)
    rw [e] at hp
    unfold wp_Mod_byteOf
    exact ⟨fun q => absurd q (nI_pos (by omega)), fun _ => ⟨fun q => absurd q (by decide), fun _ => hp⟩⟩
  | succ y =>
    rw [nI_pred]
    exact m_byte hd h15 hB hC hk (by omega) hp
theorem m_byteC {n : Nat → Nat} {w h k y : Nat} {col : Nat → Nat → Nat} {mc : Nat → Int32} {post : Int32 → Unit → Prop} (hd : Dim w h) (h15 : n 15 = 2304) (hB : ColB col) (hC : Cols w h col mc) (hk : k < 3 * w) (h3 : 3 ≤ k) (hy : y < h) (hp : post (nI (Qc col y k)) ()) : wp_Mod_byteOf n mc (nI k - 3) (nI y - 1) post := by
  rw [show (3 : Int32) = nI 3 from rfl, pk_sub h3]
  exact m_byteU hd h15 hB hC (by omega) hy (by rw [show k - 3 + 3 = k by omega]; exact hp)
theorem m_far {n : Nat → Nat} {i j : Int} {post : Int32 → Unit → Prop} (h1 : -100000 < i) (h2 : i < 100000) (h3 : -100000 < j) (h4 : j < 100000) (hp : post (nI (i - j).natAbs) ()) : wp_Mod_far n (iI i) (iI j) post := by
  unfold wp_Mod_far
  refine ⟨fun h => ?_, fun h => ?_⟩
  · rw [Int32.le_iff_toInt_le, iI_toInt (by omega) (by omega), iI_toInt (by omega) (by omega)] at h
    rw [iI_sub]
    rw [nI_iI, show (((i - j).natAbs : Nat) : Int) = i - j by omega] at hp
    exact hp
  · rw [Int32.le_iff_toInt_le, iI_toInt (by omega) (by omega), iI_toInt (by omega) (by omega)] at h
    rw [iI_sub]
    rw [nI_iI, show (((i - j).natAbs : Nat) : Int) = j - i by omega] at hp
    exact hp
theorem m_114 {n : Nat → Nat} {w h f k y a b c : Nat} {col : Nat → Nat → Nat} {mc : Nat → Int32} {post : Int32 → Unit → Prop} (hd : Dim w h) (h15 : n 15 = 2304) (hB : ColB col) (hC : Cols w h col mc) (hf : f < 5) (hk : k < 3 * w) (hy : y < h) (ha : a < 256) (hb : b < 256) (hc : c < 256)
    (hp : post (nI ((Qc col (y + 1) (k + 3) + 256 - gN f a b c) % 256)) ()) : wp_Mod_filtered_114 n mc (nI f) (nI k) (nI y) post (nI (nrN a b c)) (nI a) (nI b) := by
  have eqn : ∀ v, v < 5 → nI f = nI v → f = v := fun v hv h => (nI_eq (by omega) (by omega)).mp h
  have fin161 : ∀ g, g < 256 → gN f a b c = g → wp_Mod_filtered_161 n mc (nI f) (nI k) (nI y) post (nI g) := by
    intro g hg e
    unfold wp_Mod_filtered_161
    refine m_byte hd h15 hB hC hk hy ?_
    rw [sub_255 (Qc_B col _ _) hg]
    rw [e] at hp
    exact hp
  unfold wp_Mod_filtered_114
  have n0 : (¬ nI f = 0) → f ≠ 0 := fun h q => h (by rw [q]; rfl)
  have n1 : (¬ nI f = 1) → f ≠ 1 := fun h q => h (by rw [q]; rfl)
  have n2 : (¬ nI f = 2) → f ≠ 2 := fun h q => h (by rw [q]; rfl)
  have n3 : (¬ nI f = 3) → f ≠ 3 := fun h q => h (by rw [q]; rfl)
  refine ⟨fun h0 => ⟨fun h1 => ⟨fun h2 => ⟨fun h3 => ?_, fun h3 => ?_⟩, fun h2 => ?_⟩, fun h1 => ?_⟩, fun h0 => ?_⟩
  · refine fin161 _ (nrN_lt ha hb hc) ?_
    unfold gN
    rw [if_neg (n0 h0), if_neg (n1 h1), if_neg (n2 h2), if_neg (n3 h3)]
  · have := eqn 3 (by decide) h3
    rw [nI_add, show (2 : Int32) = nI 2 from rfl, pk_div (by omega) (by decide) (by decide)]
    refine fin161 _ (by omega) ?_
    unfold gN
    rw [if_neg (by omega), if_neg (by omega), if_neg (by omega), if_pos this]
  · have := eqn 2 (by decide) h2
    refine fin161 _ hb ?_
    unfold gN
    rw [if_neg (by omega), if_neg (by omega), if_pos this]
  · have := eqn 1 (by decide) h1
    refine fin161 _ ha ?_
    unfold gN
    rw [if_neg (by omega), if_pos this]
  · have := eqn 0 (by decide) h0
    refine fin161 0 (by decide) ?_
    unfold gN
    rw [if_pos this]
theorem m_39 {n : Nat → Nat} {w h f k y a b c : Nat} {col : Nat → Nat → Nat} {mc : Nat → Int32} {post : Int32 → Unit → Prop} (hd : Dim w h) (h15 : n 15 = 2304) (hB : ColB col) (hC : Cols w h col mc) (hf : f < 5) (hk : k < 3 * w) (hy : y < h) (ha : a < 256) (hb : b < 256) (hc : c < 256)
    (hp : post (nI ((Qc col (y + 1) (k + 3) + 256 - gN f a b c) % 256)) ()) : wp_Mod_filtered_39 n mc (nI f) (nI k) (nI y) post (nI c) (nI a) (nI b) := by
  have fin := m_114 hd h15 hB hC hf hk hy ha hb hc hp
  unfold wp_Mod_filtered_39
  intro z hz
  rw [nI_iI a, nI_iI b, nI_iI c, iI_add, iI_sub] at hz
  have ea : ((a : Int) + b - c - a).natAbs = ((b : Int) - c).natAbs := by rw [show ((a : Int) + b - c - a) = (b : Int) - c by omega]
  have eb : ((a : Int) + b - c - b).natAbs = ((a : Int) - c).natAbs := by rw [show ((a : Int) + b - c - b) = (a : Int) - c by omega]
  have f90 : ¬ (((b : Int) - c).natAbs ≤ ((a : Int) - c).natAbs ∧ ((b : Int) - c).natAbs ≤ ((a : Int) + b - c - c).natAbs) → wp_Mod_filtered_90 n mc (nI f) (nI k) (nI y) post (nI a) (nI b) (nI c) z := by
    intro hno
    unfold nrN at fin
    rw [if_neg hno] at fin
    unfold wp_Mod_filtered_90
    rw [hz, nI_iI b, nI_iI c]
    refine m_far (by omega) (by omega) (by omega) (by omega) ?_
    refine m_far (by omega) (by omega) (by omega) (by omega) ?_
    rw [eb, ← nI_iI b, ← nI_iI c]
    refine ⟨fun h => ?_, fun h => ?_⟩
    · have h2 := (nI_ltI (by omega) (by omega)).mp h
      rw [if_neg (by omega)] at fin
      exact fin
    · have h2 : ¬ ((a : Int) + b - c - c).natAbs < ((a : Int) - c).natAbs := fun q => h (nI_lt q (by omega))
      rw [if_pos (by omega)] at fin
      exact fin
  have s1 : ∀ (P : Int32 → Unit → Prop), P (nI ((b : Int) - c).natAbs) () → wp_Mod_far n z (nI a) P := by
    intro P hP
    rw [hz, nI_iI a]
    exact m_far (by omega) (by omega) (by omega) (by omega) (by rw [ea]; exact hP)
  have s2 : ∀ (P : Int32 → Unit → Prop), P (nI ((a : Int) - c).natAbs) () → wp_Mod_far n z (nI b) P := by
    intro P hP
    rw [hz, nI_iI b]
    exact m_far (by omega) (by omega) (by omega) (by omega) (by rw [eb]; exact hP)
  have s3 : ∀ (P : Int32 → Unit → Prop), P (nI ((a : Int) + b - c - c).natAbs) () → wp_Mod_far n z (nI c) P := by
    intro P hP
    rw [hz, nI_iI c]
    exact m_far (by omega) (by omega) (by omega) (by omega) hP
  refine s1 _ (s2 _ ⟨fun h => ?_, fun h => ?_⟩)
  · have h2 := (nI_ltI (by omega) (by omega)).mp h
    exact f90 (by omega)
  · have h2 : ¬ ((a : Int) - c).natAbs < ((b : Int) - c).natAbs := fun q => h (nI_lt q (by omega))
    refine s1 _ (s3 _ ⟨fun h3 => ?_, fun h3 => ?_⟩)
    · have h4 := (nI_ltI (by omega) (by omega)).mp h3
      exact f90 (by omega)
    · have h4 : ¬ ((a : Int) + b - c - c).natAbs < ((b : Int) - c).natAbs := fun q => h3 (nI_lt q (by omega))
      unfold nrN at fin
      rw [if_pos (by omega)] at fin
      exact fin
theorem m_filt {n : Nat → Nat} {w h f k y : Nat} {col : Nat → Nat → Nat} {mc : Nat → Int32} {post : Int32 → Unit → Prop} (hd : Dim w h) (h15 : n 15 = 2304) (hB : ColB col) (hC : Cols w h col mc) (hf : f < 5) (hk : k < 3 * w) (hy : y < h) (hp : post (nI (flt (Qc col) f y k)) ()) : wp_Mod_filtered n mc (nI f) (nI k) (nI y) post := by
  have hw := hd.2.1
  have hQ := Qc_B col
  unfold flt at hp
  unfold wp_Mod_filtered
  refine m_byteL hd h15 hB hC hk hy ?_
  refine m_byteU hd h15 hB hC hk hy ?_
  refine ⟨fun h => ?_, fun h => ?_⟩
  · have h3 : 3 ≤ k := Nat.le_of_not_lt (fun q => absurd h (nI_ge q (by decide)))
    refine m_byteC hd h15 hB hC hk h3 hy ?_
    exact m_39 hd h15 hB hC hf hk hy (hQ _ _) (hQ _ _) (hQ _ _) hp
  · have h3 : k < 3 := Nat.lt_of_not_le (fun q => h (nI_le q (by omega)))
    have e : Qc col y k = 0 := if_pos (Or.inr h3)
    rw [e] at hp
    exact m_39 (c := 0) hd h15 hB hC hf hk hy (hQ _ _) (hQ _ _) (by decide) hp
theorem m_sumOf {n : Nat → Nat} {w h f y : Nat} {col : Nat → Nat → Nat} {mc : Nat → Int32} {post : Int32 → Unit → Prop} (hd : Dim w h) (h15 : n 15 = 2304) (hB : ColB col) (hC : Cols w h col mc) (hf : f < 5) (hy : y < h) (hp : post (nI (cosN (Qc col) f y (3 * w))) ()) : wp_Mod_sumOf n (nI w) mc (nI f) (nI y) post := by
  have hw := hd.2.1
  have loop : ∀ (k i : Nat), i + k = 3 * w → wp_Mod_sumOf_5 n (nI w) mc (nI f) (nI y) post (k + 1) (nI (cosN (Qc col) f y i)) (nI i) := by
    intro k
    induction k with
    | zero =>
      intro i hi
      unfold wp_Mod_sumOf_5
      rw [show (3 : Int32) = nI 3 from rfl, pk_mul]
      refine ⟨fun _ => ?_, fun q => absurd (nI_le (by omega) (by omega)) q⟩
      rw [show i = 3 * w by omega]
      exact hp
    | succ k ih =>
      intro i hi
      unfold wp_Mod_sumOf_5
      rw [show (3 : Int32) = nI 3 from rfl, pk_mul]
      refine ⟨fun q => absurd q (nI_ge (by omega) (by omega)), fun _ => ?_⟩
      refine m_filt hd h15 hB hC hf (by omega) hy ?_
      have hv := flt_lt (Qc col) f y i
      have nx := ih (i + 1) (by omega)
      have ec : cosN (Qc col) f y (i + 1) = cosN (Qc col) f y i + cst (flt (Qc col) f y i) := rfl
      unfold cst at ec
      rw [show (256 : Int32) = nI 256 from rfl, pk_sub (by omega)]
      refine ⟨fun q => ?_, fun q => ?_⟩
      · have q2 := (nI_leI (by omega) (by omega)).mp q
        rw [if_neg (by omega)] at ec
        rw [ec] at nx
        intro z1 hz1 z2 hz2
        rw [hz1, hz2, nI_1, nI_add]
        exact nx
      · have q2 : ¬ 256 - flt (Qc col) f y i ≤ flt (Qc col) f y i := fun z => q (nI_le z (by omega))
        rw [if_pos (by omega)] at ec
        rw [ec] at nx
        intro z1 hz1 z2 hz2
        rw [hz1, hz2, nI_1, nI_add]
        exact nx
  unfold wp_Mod_sumOf
  exact ⟨_, loop (3 * w) 0 (by omega)⟩
theorem m_rows {n : Nat → Nat} {w h : Nat} {col : Nat → Nat → Nat} {mc mr : Nat → Int32} {i0 : Int32} {post : Int32 × (Nat → Int32) → Prop} (hd : Dim w h) (h15 : n 15 = 2304) (h16 : n 16 = 6960) (hB : ColB col) (hC : Cols w h col mc)
    (hp : ∀ mr', Agr ((3 * w + 1) * h) (RR (Qc col) w) mr' → post (nI ((3 * w + 1) * h), mr')) : wp_Mod_makeRows n (nI w) (nI h) i0 mc mr post := by
  obtain ⟨w1, w2, h1, h2⟩ := id hd
  have m4 : (3 * w + 1) * h ≤ 145 * 48 := Nat.mul_le_mul (by omega) (by omega)
  have bnd : ∀ y, y < h → y * (3 * w + 1) + (3 * w + 1) ≤ (3 * w + 1) * h := by
    intro y hy
    rw [← Nat.succ_mul, Nat.mul_comm (3 * w + 1) h]
    exact Nat.mul_le_mul_right _ hy
  have l73 : ∀ (k7 : Int32 → (Nat → Int32) → Int32 → Prop) (y : Nat), y < h → (∀ mr', Agr ((y + 1) * (3 * w + 1)) (RR (Qc col) w) mr' → k7 (nI ((y + 1) * (3 * w + 1))) mr' (nI (y + 1))) → ∀ (k i : Nat) (g : Nat → Int32), i + k = 3 * w → Agr (y * (3 * w + 1) + 1 + i) (RR (Qc col) w) g → wp_Mod_makeRows_73 n (nI w) (nI h) mc post k7 (k + 1) (nI (y * (3 * w + 1) + 1 + i)) g (nI y) (nI (bf (Qc col) w y 4)) (nI i) := by
    intro k7 y hy hk7 k
    have hb := bnd y hy
    have hb4 := bf_le (Qc col) w y 4
    induction k with
    | zero =>
      intro i g hi hg
      unfold wp_Mod_makeRows_73
      rw [show (3 : Int32) = nI 3 from rfl, pk_mul]
      refine ⟨fun _ => ?_, fun q => absurd (nI_le (by omega) (by omega)) q⟩
      intro z hz
      rw [hz, nI_1]
      have e : y * (3 * w + 1) + 1 + i = (y + 1) * (3 * w + 1) := by rw [Nat.add_mul y 1 (3 * w + 1), Nat.one_mul]; omega
      rw [e] at hg ⊢
      exact hk7 g hg
    | succ k ih =>
      intro i g hi hg
      unfold wp_Mod_makeRows_73
      rw [show (3 : Int32) = nI 3 from rfl, pk_mul]
      refine ⟨fun q => absurd q (nI_ge (by omega) (by omega)), fun _ => ?_⟩
      refine m_filt hd h15 hB hC (by omega) (by omega) hy ?_
      refine ⟨vp_in_nI (by omega) (by omega), ?_⟩
      intro f hf z12 hz12 z13 hz13
      rw [hz12, hz13, nI_1, nI_1, hf, nI_clamp (by omega)]
      refine ih (i + 1) _ (by omega) ?_
      rw [show y * (3 * w + 1) + 1 + (i + 1) = y * (3 * w + 1) + 1 + i + 1 by omega]
      exact hg.step (by rw [RR_k (Qc col) w y i (by omega)])
  have l19 : ∀ (k7 : Int32 → (Nat → Int32) → Int32 → Prop) (y : Nat) (g : Nat → Int32), y < h → Agr (y * (3 * w + 1)) (RR (Qc col) w) g → (∀ mr', Agr ((y + 1) * (3 * w + 1)) (RR (Qc col) w) mr' → k7 (nI ((y + 1) * (3 * w + 1))) mr' (nI (y + 1))) → ∀ (k i : Nat), i + k = 4 → wp_Mod_makeRows_19 n (nI w) (nI h) mc post k7 (k + 1) (nI (y * (3 * w + 1))) g (nI y) (nI (bf (Qc col) w y i)) (nI (i + 1)) := by
    intro k7 y g hy hg hk7 k
    have hb := bnd y hy
    induction k with
    | zero =>
      intro i hi
      have e : i = 4 := by omega
      subst e
      unfold wp_Mod_makeRows_19
      refine ⟨fun _ => ?_, fun q => absurd (by decide) q⟩
      refine ⟨vp_in_nI (by omega) (by omega), ?_⟩
      intro f hf z hz
      rw [hz, nI_1, hf, nI_clamp (by omega)]
      exact ⟨_, l73 k7 y hy hk7 (3 * w) 0 _ (by omega) (hg.step (by rw [RR_0]))⟩
    | succ k ih =>
      intro i hi
      have hb4 := bf_le (Qc col) w y i
      unfold wp_Mod_makeRows_19
      refine ⟨fun q => absurd q (nI_ge (show i + 1 < 5 by omega) (by decide)), fun _ => ?_⟩
      refine m_sumOf hd h15 hB hC (by omega) hy ?_
      refine m_sumOf hd h15 hB hC (by omega) hy ?_
      have c1 := cosN_le (Qc col) (bf (Qc col) w y i) y (3 * w)
      have c2 := cosN_le (Qc col) (i + 1) y (3 * w)
      have nx := ih (i + 1) (by omega)
      have eb : bf (Qc col) w y (i + 1) = if cosN (Qc col) (i + 1) y (3 * w) < cosN (Qc col) (bf (Qc col) w y i) y (3 * w) then i + 1 else bf (Qc col) w y i := rfl
      refine ⟨fun q => ?_, fun q => ?_⟩
      · have q2 := (nI_leI (by omega) (by omega)).mp q
        intro z hz
        rw [hz, nI_1]
        rw [if_neg (by omega)] at eb
        rw [eb] at nx
        exact nx
      · have q2 : ¬ cosN (Qc col) (bf (Qc col) w y i) y (3 * w) ≤ cosN (Qc col) (i + 1) y (3 * w) := fun z => q (nI_le z (by omega))
        intro z hz
        rw [hz, nI_1]
        rw [if_pos (by omega)] at eb
        rw [eb] at nx
        exact nx
  have l7 : ∀ (k y : Nat) (g : Nat → Int32), y + k = h → Agr (y * (3 * w + 1)) (RR (Qc col) w) g → wp_Mod_makeRows_7 n (nI w) (nI h) mc post (k + 1) (nI (y * (3 * w + 1))) g (nI y) := by
    intro k
    induction k with
    | zero =>
      intro y g hy hg
      have e : y = h := by omega
      subst e
      unfold wp_Mod_makeRows_7
      rw [Nat.mul_comm] at hg ⊢
      exact ⟨fun _ => hp g hg, fun q => absurd (nI_le (by omega) (by omega)) q⟩
    | succ k ih =>
      intro y g hy hg
      unfold wp_Mod_makeRows_7
      refine ⟨fun q => absurd q (nI_ge (by omega) (by omega)), fun _ => ?_⟩
      exact ⟨_, l19 _ y g (by omega) hg (fun mr' hm => ih (y + 1) mr' (by omega) hm) 4 0 (by omega)⟩
  unfold wp_Mod_makeRows
  have := l7 h 0 mr (by omega) (by rw [Nat.zero_mul]; exact fun j hj => absurd hj (Nat.not_lt_zero j))
  rw [Nat.zero_mul] at this
  exact ⟨_, this⟩
