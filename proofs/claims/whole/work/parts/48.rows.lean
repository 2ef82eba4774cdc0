/-! PURE: rows and their filters: the class -/
def iI (i : Int) : Int32 := Int32.ofInt i
theorem iI_toInt {i : Int} (h1 : -1073741824 ≤ i) (h2 : i < 1073741824) : (iI i).toInt = i := Int32.toInt_ofInt_of_le (by omega) (by omega)
theorem nI_iI (a : Nat) : nI a = iI (a : Int) := by
  apply Int32.toBitVec_inj.mp
  apply BitVec.eq_of_toNat_eq
  unfold nI iI
  simp
theorem iI_add (i j : Int) : iI i + iI j = iI (i + j) := (Int32.ofInt_add i j).symm
theorem iI_sub (i j : Int) : iI i - iI j = iI (i - j) := (Int32.ofInt_sub i j).symm
theorem abs_iI {i : Int} (h1 : -1073741824 < i) (h2 : i < 1073741824) : (if 0 ≤ iI i then iI i else 0 - iI i) = nI i.natAbs := by
  have hz : (0 : Int32) = iI 0 := rfl
  by_cases h : 0 ≤ i
  · have : (0 : Int32) ≤ iI i := by
      rw [Int32.le_iff_toInt_le, iI_toInt (by omega) h2]; exact h
    rw [if_pos this, nI_iI]
    congr 1; omega
  · have : ¬ (0 : Int32) ≤ iI i := by
      rw [Int32.le_iff_toInt_le, iI_toInt (by omega) h2]; exact h
    rw [if_neg this, hz, iI_sub, nI_iI]
    congr 1; omega
def nrN (a b c : Nat) : Nat := if ((b : Int) - c).natAbs ≤ ((a : Int) - c).natAbs ∧ ((b : Int) - c).natAbs ≤ ((a : Int) + b - c - c).natAbs then a else if ((a : Int) - c).natAbs ≤ ((a : Int) + b - c - c).natAbs then b else c
def gN (f a b c : Nat) : Nat := if f = 0 then 0 else if f = 1 then a else if f = 2 then b else if f = 3 then (a + b) / 2 else nrN a b c
theorem nrN_lt {a b c : Nat} (ha : a < 256) (hb : b < 256) (hc : c < 256) : nrN a b c < 256 := by
  unfold nrN; split
  · exact ha
  · split
    · exact hb
    · exact hc
theorem gN_lt {f a b c : Nat} (ha : a < 256) (hb : b < 256) (hc : c < 256) : gN f a b c < 256 := by
  unfold gN
  repeat' split
  · decide
  · exact ha
  · exact hb
  · omega
  · exact nrN_lt ha hb hc
theorem w_nearest {n : Nat → Nat} {a b c : Nat} {post : Int32 → Unit → Prop} (ha : a < 256) (hb : b < 256) (hc : c < 256) (hp : post (nI (nrN a b c)) ()) : wp_Pic_nearest n (nI a) (nI b) (nI c) post := by
  unfold wp_Pic_nearest
  intro z1 hz1
  rw [nI_iI a, nI_iI b, nI_iI c, iI_add, iI_sub] at hz1
  intro z2 hz2 z3 hz3 z4 hz4
  rw [hz1, nI_iI a, iI_sub, abs_iI (by omega) (by omega), show ((a : Int) + b - c - a) = (b : Int) - c by omega] at hz2
  rw [hz1, nI_iI b, iI_sub, abs_iI (by omega) (by omega), show ((a : Int) + b - c - b) = (a : Int) - c by omega] at hz3
  rw [hz1, nI_iI c, iI_sub, abs_iI (by omega) (by omega)] at hz4
  have g46 : ¬ (((b : Int) - c).natAbs ≤ ((a : Int) - c).natAbs ∧ ((b : Int) - c).natAbs ≤ ((a : Int) + b - c - c).natAbs) → wp_Pic_nearest_46 n (nI a) (nI b) (nI c) post z3 z4 := by
    intro hno
    unfold wp_Pic_nearest_46
    unfold nrN at hp
    rw [if_neg hno] at hp
    rw [hz3, hz4]
    refine ⟨fun h => ?_, fun h => ?_⟩
    · have h2 := (nI_ltI (by omega) (by omega)).mp h
      rw [if_neg (by omega)] at hp
      exact hp
    · have h2 : ¬ ((a : Int) + b - c - c).natAbs < ((a : Int) - c).natAbs := fun q => h (nI_lt q (by omega))
      rw [if_pos (by omega)] at hp
      exact hp
  rw [hz2]
  refine ⟨fun h => ?_, fun h => ⟨fun h2 => ?_, fun h2 => ?_⟩⟩
  · rw [hz3] at h
    have h3 := (nI_ltI (by omega) (by omega)).mp h
    exact g46 (by omega)
  · rw [hz4] at h2
    have h3 := (nI_ltI (by omega) (by omega)).mp h2
    exact g46 (by omega)
  · rw [hz3] at h
    rw [hz4] at h2
    have h3 : ¬ ((a : Int) - c).natAbs < ((b : Int) - c).natAbs := fun q => h (nI_lt q (by omega))
    have h4 : ¬ ((a : Int) + b - c - c).natAbs < ((b : Int) - c).natAbs := fun q => h2 (nI_lt q (by omega))
    unfold nrN at hp
    rw [if_pos (by omega)] at hp
    exact hp
theorem w_guess {n : Nat → Nat} {f a b c : Nat} {post : Int32 → Unit → Prop} (hf : f < 5) (ha : a < 256) (hb : b < 256) (hc : c < 256) (hp : post (nI (gN f a b c)) ()) : wp_Pic_guess n (nI f) (nI a) (nI b) (nI c) post := by
  have eqn : ∀ v, v < 5 → nI f = nI v → f = v := fun v hv h => (nI_eq (by omega) (by omega)).mp h
  unfold wp_Pic_guess
  unfold gN at hp
  refine ⟨fun h => ?_, fun h => ?_, fun h => ?_, fun h => ?_, fun h1 h2 h3 h4 => ?_⟩
  · have := eqn 1 (by decide) h
    rw [if_neg (by omega), if_pos this] at hp
    exact hp
  · have := eqn 2 (by decide) h
    rw [if_neg (by omega), if_neg (by omega), if_pos this] at hp
    exact hp
  · have := eqn 3 (by decide) h
    rw [if_neg (by omega), if_neg (by omega), if_neg (by omega), if_pos this] at hp
    rw [nI_add, show (1 : Int32) = nI 1 from rfl, ni_shr (by decide) (by omega)]
    exact hp
  · have := eqn 4 (by decide) h
    rw [if_neg (by omega), if_neg (by omega), if_neg (by omega), if_neg (by omega)] at hp
    exact w_nearest ha hb hc hp
  · have g1 : f ≠ 1 := fun q => h1 (by rw [q]; rfl)
    have g2 : f ≠ 2 := fun q => h2 (by rw [q]; rfl)
    have g3 : f ≠ 3 := fun q => h3 (by rw [q]; rfl)
    have g4 : f ≠ 4 := fun q => h4 (by rw [q]; rfl)
    rw [if_pos (by omega)] at hp
    exact hp
theorem sub_255 {x g : Nat} (hx : x < 256) (hg : g < 256) : (nI x - nI g) &&& 255 = nI ((x + 256 - g) % 256) := by
  rw [pk_and _ 8 (by decide)]
  congr 1
  show (nI x - nI g).toBitVec.toNat % 256 = _
  have e : (nI x - nI g).toBitVec = (nI x).toBitVec - (nI g).toBitVec := rfl
  rw [e, BitVec.toNat_sub, pk_tn (by omega), pk_tn (by omega)]
  omega
/-- the picture with a row of zeros above and a pixel of zeros before each row -/
def Padded (w h : Nat) (Q : Nat → Nat → Nat) (pb : Nat → Int32) : Prop := ∀ r j, r ≤ h → j < 3 * (w + 1) → pb (r * (3 * (w + 1)) + j) = nI (Q r j)
def QB (Q : Nat → Nat → Nat) : Prop := ∀ r j, Q r j < 256
def flt (Q : Nat → Nat → Nat) (f y k : Nat) : Nat := (Q (y + 1) (k + 3) + 256 - gN f (Q (y + 1) k) (Q y (k + 3)) (Q y k)) % 256
theorem flt_lt (Q : Nat → Nat → Nat) (f y k : Nat) : flt Q f y k < 256 := Nat.mod_lt _ (by decide)
/-- the numbers that stay: at most 48 each way -/
def Dim (w h : Nat) : Prop := 1 ≤ w ∧ w ≤ 48 ∧ 1 ≤ h ∧ h ≤ 48
theorem mul_le48 {y h s : Nat} (hy : y ≤ h) (hh : h ≤ 48) (hs : s ≤ 147) : y * s ≤ 48 * 147 := Nat.mul_le_mul (by omega) hs
theorem w_less {n : Nat → Nat} {w h f y k : Nat} {Q : Nat → Nat → Nat} {pb : Nat → Int32} {post : Int32 → Unit → Prop} (hd : Dim w h) (h8 : n 8 = 3 * (w + 1) * (h + 1)) (hQ : QB Q) (hP : Padded w h Q pb) (hf : f < 5) (hy : y < h) (hk : k < 3 * w) (hp : post (nI (flt Q f y k)) ()) :
    wp_Pic_lessGuess n (nI (3 * (w + 1))) pb (nI f) (nI ((y + 1) * (3 * (w + 1)) + 3 + k)) post := by
  obtain ⟨w1, w2, h1, h2⟩ := hd
  have m1 := mul_le48 (y := y) (h := h) (s := 3 * (w + 1)) (by omega) h2 (by omega)
  have m2 : (y + 1) * (3 * (w + 1)) = y * (3 * (w + 1)) + 3 * (w + 1) := Nat.succ_mul _ _
  have m3 : (y + 1) * (3 * (w + 1)) + 3 * (w + 1) ≤ n 8 := by
    rw [h8, Nat.mul_comm (3 * (w + 1)) (h + 1), ← Nat.succ_mul]
    exact Nat.mul_le_mul_right _ (by omega)
  have m4 : n 8 ≤ 3 * 49 * 49 := by rw [h8]; exact Nat.mul_le_mul (by omega) (by omega)
  unfold wp_Pic_lessGuess
  rw [show (3 : Int32) = nI 3 from rfl, nI_add]
  refine ⟨fun q => absurd q (nI_nlt (by omega) (by omega)), fun _ => ⟨fun _ => ?_, fun q => absurd (nI_lt (by omega) (by omega)) q⟩⟩
  rw [pk_sub (by omega), pk_sub (by omega), pk_sub (by omega)]
  refine ⟨vp_in_nI (by omega) (by omega), ?_⟩
  intro z4 hz4
  refine ⟨vp_in_nI (by omega) (by omega), ?_⟩
  intro z6 hz6
  refine ⟨vp_in_nI (by omega) (by omega), ?_⟩
  intro z8 hz8
  refine ⟨vp_in_nI (by omega) (by omega), ?_⟩
  rw [nI_clamp (by omega)] at hz4 hz6 hz8
  rw [show (y + 1) * (3 * (w + 1)) + 3 + k - 3 = (y + 1) * (3 * (w + 1)) + k by omega, hP (y + 1) k (by omega) (by omega)] at hz4
  rw [show (y + 1) * (3 * (w + 1)) + 3 + k - 3 * (w + 1) = y * (3 * (w + 1)) + (k + 3) by omega, hP y (k + 3) (by omega) (by omega)] at hz6
  rw [show (y + 1) * (3 * (w + 1)) + 3 + k - 3 * (w + 1) - 3 = y * (3 * (w + 1)) + k by omega, hP y k (by omega) (by omega)] at hz8
  rw [hz4, hz6, hz8]
  refine w_guess hf (hQ _ _) (hQ _ _) (hQ _ _) ?_
  rw [nI_clamp (by omega), show (y + 1) * (3 * (w + 1)) + 3 + k = (y + 1) * (3 * (w + 1)) + (k + 3) by omega, hP (y + 1) (k + 3) (by omega) (by omega), sub_255 (hQ _ _) (gN_lt (hQ _ _) (hQ _ _) (hQ _ _))]
  exact hp
def cst (v : Nat) : Nat := if v < 256 - v then v else 256 - v
theorem cst_le {v : Nat} (h : v < 256) : cst v ≤ 128 := by unfold cst; split <;> omega
def cosN (Q : Nat → Nat → Nat) (f y : Nat) : Nat → Nat
  | 0 => 0
  | k + 1 => cosN Q f y k + cst (flt Q f y k)
theorem cosN_le (Q : Nat → Nat → Nat) (f y : Nat) : ∀ k, cosN Q f y k ≤ 128 * k
  | 0 => Nat.le_refl 0
  | k + 1 => by
    have := cosN_le Q f y k
    have := cst_le (flt_lt Q f y k)
    unfold cosN; omega
theorem w_cost {n : Nat → Nat} {w h f y : Nat} {Q : Nat → Nat → Nat} {pb : Nat → Int32} {post : Int32 → Unit → Prop} (hd : Dim w h) (h8 : n 8 = 3 * (w + 1) * (h + 1)) (hQ : QB Q) (hP : Padded w h Q pb) (hf : f < 5) (hy : y < h) (hp : post (nI (cosN Q f y (3 * w))) ()) :
    wp_Rows_cost n (nI (3 * (w + 1))) (nI (3 * w)) pb (nI f) (nI ((y + 1) * (3 * (w + 1)) + 3)) post := by
  have loop : ∀ (k i : Nat), i + k = 3 * w → wp_Rows_cost_5 n (nI (3 * (w + 1))) (nI (3 * w)) pb (nI f) (nI ((y + 1) * (3 * (w + 1)) + 3)) post (k + 1) (nI (cosN Q f y i)) (nI i) := by
    obtain ⟨w1, w2, h1, h2⟩ := id hd
    intro k
    induction k with
    | zero =>
      intro i hi
      unfold wp_Rows_cost_5
      refine ⟨fun _ => ?_, fun q => absurd (nI_le (by omega) (by omega)) q⟩
      rw [show i = 3 * w by omega]
      exact hp
    | succ k ih =>
      intro i hi
      unfold wp_Rows_cost_5
      refine ⟨fun q => absurd q (nI_ge (by omega) (by omega)), fun _ => ?_⟩
      rw [nI_add]
      refine w_less hd h8 hQ hP hf hy (by omega) ?_
      intro z4 hz4 z5 hz5
      have hv := flt_lt Q f y i
      rw [show (256 : Int32) = nI 256 from rfl, pk_sub (by omega)] at hz4
      have e : (if nI (256 - flt Q f y i) < nI (flt Q f y i) then nI (256 - flt Q f y i) else nI (flt Q f y i)) = nI (cst (flt Q f y i)) := by
        unfold cst
        by_cases q : 256 - flt Q f y i < flt Q f y i
        · rw [if_pos (nI_lt q (by omega)), if_neg (by omega)]
        · rw [if_neg (nI_nlt (by omega) (by omega))]
          by_cases q2 : flt Q f y i < 256 - flt Q f y i
          · rw [if_pos q2]
          · rw [if_neg q2]; congr 1; omega
      rw [e, nI_add] at hz4
      rw [hz4, hz5, nI_1]
      exact ih (i + 1) (by omega)
  unfold wp_Rows_cost
  exact ⟨_, loop (3 * w) 0 (by omega)⟩
/-- the filter: the least of the first g + 1 -/
def bf (Q : Nat → Nat → Nat) (w y : Nat) : Nat → Nat
  | 0 => 0
  | g + 1 => if cosN Q (g + 1) y (3 * w) < cosN Q (bf Q w y g) y (3 * w) then g + 1 else bf Q w y g
theorem bf_le (Q : Nat → Nat → Nat) (w y : Nat) : ∀ g, bf Q w y g ≤ g
  | 0 => Nat.le_refl 0
  | g + 1 => by
    have := bf_le Q w y g
    unfold bf; split <;> omega
theorem w_best {n : Nat → Nat} {w h y : Nat} {Q : Nat → Nat → Nat} {pb : Nat → Int32} {post : Int32 → Unit → Prop} (hd : Dim w h) (h8 : n 8 = 3 * (w + 1) * (h + 1)) (hQ : QB Q) (hP : Padded w h Q pb) (hy : y < h) (hp : post (nI (bf Q w y 4)) ()) :
    wp_Rows_bestFilter n (nI (3 * (w + 1))) (nI (3 * w)) pb (nI ((y + 1) * (3 * (w + 1)) + 3)) post := by
  have loop : ∀ (k i : Nat), i + k = 4 → wp_Rows_bestFilter_12 n (nI (3 * (w + 1))) (nI (3 * w)) pb (nI ((y + 1) * (3 * (w + 1)) + 3)) post (k + 1) (nI (bf Q w y i)) (nI (cosN Q (bf Q w y i) y (3 * w))) (nI (i + 1)) := by
    obtain ⟨w1, w2, h1, h2⟩ := id hd
    intro k
    induction k with
    | zero =>
      intro i hi
      unfold wp_Rows_bestFilter_12
      refine ⟨fun _ => ?_, fun q => absurd (nI_le (a := 5) (by omega) (by omega)) q⟩
      rw [show i = 4 by omega]
      exact hp
    | succ k ih =>
      intro i hi
      unfold wp_Rows_bestFilter_12
      refine ⟨fun q => absurd q (nI_ge (show i + 1 < 5 by omega) (by decide)), fun _ => ?_⟩
      refine w_cost hd h8 hQ hP (by omega) hy ?_
      have c1 := cosN_le Q (bf Q w y i) y (3 * w)
      have c2 := cosN_le Q (i + 1) y (3 * w)
      have nx := ih (i + 1) (by omega)
      have eb : bf Q w y (i + 1) = if cosN Q (i + 1) y (3 * w) < cosN Q (bf Q w y i) y (3 * w) then i + 1 else bf Q w y i := rfl
      refine ⟨fun q => ?_, fun q => ?_⟩
      · have q2 := (nI_leI (by omega) (by omega)).mp q
        intro z hz
        rw [hz, nI_1]
        rw [if_neg (by omega)] at eb
        rw [eb] at nx
        exact nx
      · have q2 : ¬ cosN Q (bf Q w y i) y (3 * w) ≤ cosN Q (i + 1) y (3 * w) := fun z => q (nI_le z (by omega))
        intro z hz
        rw [hz, nI_1]
        rw [if_pos (by omega)] at eb
        rw [eb] at nx
        exact nx
  unfold wp_Rows_bestFilter
  refine w_cost (f := 0) hd h8 hQ hP (by decide) hy ?_
  exact ⟨_, loop 4 0 (by omega)⟩
/-- all rows, one behind the other -/
def RR (Q : Nat → Nat → Nat) (w : Nat) (j : Nat) : Nat := if j % (3 * w + 1) = 0 then bf Q w (j / (3 * w + 1)) 4 else flt Q (bf Q w (j / (3 * w + 1)) 4) (j / (3 * w + 1)) (j % (3 * w + 1) - 1)
theorem RR_B (Q : Nat → Nat → Nat) (w : Nat) : Byt (RR Q w) := by
  intro j
  unfold RR
  split
  · have := bf_le Q w (j / (3 * w + 1)) 4; omega
  · exact flt_lt _ _ _ _
theorem RR_0 (Q : Nat → Nat → Nat) (w y : Nat) : RR Q w (y * (3 * w + 1)) = bf Q w y 4 := by
  unfold RR
  rw [Nat.mul_mod_left, if_pos rfl, Nat.mul_div_cancel _ (by omega)]
theorem RR_k (Q : Nat → Nat → Nat) (w y k : Nat) (hk : k < 3 * w) : RR Q w (y * (3 * w + 1) + 1 + k) = flt Q (bf Q w y 4) y k := by
  have e1 : (y * (3 * w + 1) + 1 + k) % (3 * w + 1) = 1 + k := by
    rw [Nat.add_assoc, Nat.mul_comm, Nat.mul_add_mod, Nat.mod_eq_of_lt (by omega)]
  have e2 : (y * (3 * w + 1) + 1 + k) / (3 * w + 1) = y := by
    rw [Nat.add_assoc, Nat.mul_comm, Nat.mul_add_div (by omega), Nat.div_eq_of_lt (by omega)]; rfl
  unfold RR
  rw [e1, e2, if_neg (by omega), show 1 + k - 1 = k by omega]
theorem Agr.step {R : Nat → Nat} {f : Nat → Int32} {m : Nat} {v : Int32} (h : Agr m R f) (hv : v = nI (R m)) : Agr (m + 1) R (upd f m v) := by
  intro j hj
  by_cases e : j = m
  · subst e; rw [pk_us, hv]
  · rw [pk_un e]; exact h j (by omega)
theorem w_lay {n : Nat → Nat} {w h y : Nat} {Q : Nat → Nat → Nat} {pb rb : Nat → Int32} {post : (Nat → Int32) → Prop} (hd : Dim w h) (h8 : n 8 = 3 * (w + 1) * (h + 1)) (h9 : n 9 = (3 * w + 1) * h) (hQ : QB Q) (hP : Padded w h Q pb) (hy : y < h) (hA : Agr (y * (3 * w + 1)) (RR Q w) rb) (hp : ∀ rb', Agr ((y + 1) * (3 * w + 1)) (RR Q w) rb' → post rb') :
    wp_Rows_lay n (nI (3 * (w + 1))) (nI (3 * w)) pb rb (nI y) (nI (bf Q w y 4)) (nI ((y + 1) * (3 * (w + 1)) + 3)) post := by
  obtain ⟨w1, w2, h1, h2⟩ := id hd
  have m1 : (y + 1) * (3 * w + 1) ≤ n 9 := by rw [h9, Nat.mul_comm (3 * w + 1) h]; exact Nat.mul_le_mul_right _ (by omega)
  have m2 : (y + 1) * (3 * w + 1) = y * (3 * w + 1) + (3 * w + 1) := Nat.succ_mul _ _
  have m4 : n 9 ≤ 145 * 48 := by rw [h9]; exact Nat.mul_le_mul (by omega) (by omega)
  have hb4 := bf_le Q w y 4
  have loop : ∀ (k i : Nat) (g : Nat → Int32), i + k = 3 * w → Agr (y * (3 * w + 1) + 1 + i) (RR Q w) g → wp_Rows_lay_42 n (nI (3 * (w + 1))) (nI (3 * w)) pb (nI y) (nI (bf Q w y 4)) (nI ((y + 1) * (3 * (w + 1)) + 3)) post (k + 1) g (nI (y * (3 * w + 1))) (nI i) := by
    intro k
    induction k with
    | zero =>
      intro i g hi hg
      unfold wp_Rows_lay_42
      refine ⟨fun _ => hp g (by rw [m2, show y * (3 * w + 1) + (3 * w + 1) = y * (3 * w + 1) + 1 + i by omega]; exact hg), fun q => absurd (nI_le (by omega) (by omega)) q⟩
    | succ k ih =>
      intro i g hi hg
      unfold wp_Rows_lay_42
      refine ⟨fun q => absurd q (nI_ge (by omega) (by omega)), fun _ => ?_⟩
      rw [nI_add, nI_1, nI_add]
      refine w_less hd h8 hQ hP (by omega) hy (by omega) ?_
      refine ⟨vp_in_nI (by omega) (by omega), ?_⟩
      intro f hf z hz
      rw [hz, nI_1, hf, nI_clamp (by omega)]
      refine ih (i + 1) _ (by omega) ?_
      rw [show y * (3 * w + 1) + 1 + (i + 1) = y * (3 * w + 1) + 1 + i + 1 by omega]
      exact hg.step (by rw [RR_k Q w y i (by omega)])
  unfold wp_Rows_lay
  intro z1 hz1
  rw [nI_1, pk_mul] at hz1
  rw [hz1]
  refine ⟨fun q => absurd q (nI_pos (by omega)), fun _ => ?_⟩
  rw [nI_add]
  refine ⟨fun _ => ?_, fun q => absurd (nI_lt (by omega) (by omega)) q⟩
  refine ⟨vp_in_nI (by omega) (by omega), ?_⟩
  intro f5 hf5
  rw [nI_clamp (by omega)] at hf5
  rw [hf5]
  exact ⟨_, loop (3 * w) 0 _ (by omega) (hA.step (by rw [RR_0]))⟩
theorem w_make {n : Nat → Nat} {w h : Nat} {Q : Nat → Nat → Nat} {pb rb fl : Nat → Int32} {post : (Nat → Int32) × (Nat → Int32) → Prop} (hd : Dim w h) (h8 : n 8 = 3 * (w + 1) * (h + 1)) (h9 : n 9 = (3 * w + 1) * h) (h10 : n 10 = h) (hQ : QB Q) (hP : Padded w h Q pb)
    (hp : ∀ rb' fl', Agr (n 9) (RR Q w) rb' → (∀ y, y < h → fl' y = nI (bf Q w y 4)) → post (rb', fl')) : wp_Rows_make n (nI (3 * (w + 1))) (nI (3 * w)) pb rb fl post := by
  obtain ⟨w1, w2, h1, h2⟩ := id hd
  have loop : ∀ (k y : Nat) (g fl : Nat → Int32), y + k = h → Agr (y * (3 * w + 1)) (RR Q w) g → (∀ i, i < y → fl i = nI (bf Q w i 4)) → wp_Rows_make_2 n (nI (3 * (w + 1))) (nI (3 * w)) pb post (k + 1) g fl (nI y) := by
    intro k
    induction k with
    | zero =>
      intro y g fl hy hg hf
      have e : y = h := by omega
      subst e
      unfold wp_Rows_make_2
      rw [h10]
      refine ⟨fun _ => hp g fl (by rw [h9, Nat.mul_comm]; exact hg) hf, fun q => absurd (nI_le (by omega) (by omega)) q⟩
    | succ k ih =>
      intro y g fl hy hg hf
      unfold wp_Rows_make_2
      rw [h10]
      refine ⟨fun q => absurd q (nI_ge (by omega) (by omega)), fun _ => ?_⟩
      unfold wp_Pic_placeOf
      have ep : (nI y + 1) * nI (3 * (w + 1)) + 3 * (0 + 1) = nI ((y + 1) * (3 * (w + 1)) + 3) := by
        rw [nI_1, pk_mul, show (3 * (0 + 1) : Int32) = nI 3 from rfl, nI_add]
      rw [ep]
      refine w_best hd h8 hQ hP (by omega) ?_
      refine ⟨vp_in_nI (by omega) (by omega), ?_⟩
      intro f7 hf7
      rw [nI_clamp (by omega)] at hf7 ⊢
      refine ⟨vp_in_nI (by omega) (by omega), ?_⟩
      rw [hf7, pk_us]
      refine w_lay hd h8 h9 hQ hP (by omega) hg (fun rb' hrb => ?_)
      intro z hz
      rw [hz, nI_1]
      refine ih (y + 1) rb' _ (by omega) hrb (fun i hi => ?_)
      by_cases e : i = y
      · subst e; rw [pk_us]
      · rw [pk_un e]; exact hf i (by omega)
  unfold wp_Rows_make
  exact ⟨_, loop h 0 rb fl (by omega) (by rw [Nat.zero_mul]; exact fun j hj => absurd hj (Nat.not_lt_zero j)) (fun i hi => absurd hi (Nat.not_lt_zero i))⟩
