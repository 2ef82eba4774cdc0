/-! PURE: set, fill and pixel, both sides -/
def colS (col : Nat → Nat → Nat) (xx yy c : Nat) : Nat → Nat → Nat := fun x y => if x = xx ∧ y = yy then c else col x y
theorem colS_B {col : Nat → Nat → Nat} {xx yy c : Nat} (h : ColB col) (hc : c < 16777216) : ColB (colS col xx yy c) := by
  intro x y
  unfold colS
  split
  · exact hc
  · exact h x y
theorem split_uniq {s r j r' j' : Nat} (hj : j < s) (hj' : j' < s) (h : r * s + j = r' * s + j') : r = r' ∧ j = j' := by
  have h1 : (r * s + j) / s = r := by rw [Nat.mul_comm, Nat.mul_add_div (by omega), Nat.div_eq_of_lt hj]; rfl
  have h2 : (r' * s + j') / s = r' := by rw [Nat.mul_comm, Nat.mul_add_div (by omega), Nat.div_eq_of_lt hj']; rfl
  have h3 : r = r' := by rw [← h1, h, h2]
  subst h3
  exact ⟨rfl, by omega⟩
theorem w_place {n : Nat → Nat} {w x y : Nat} {post : Int32 → Unit → Prop} (hp : post (nI ((y + 1) * (3 * (w + 1)) + 3 * (x + 1))) ()) : wp_Pic_placeOf n (nI (3 * (w + 1))) (nI x) (nI y) post := by
  unfold wp_Pic_placeOf
  rw [nI_1, nI_1, pk_mul, show (3 : Int32) = nI 3 from rfl, pk_mul, nI_add]
  exact hp
theorem place_le {n : Nat → Nat} {w h x y : Nat} (hd : Dim w h) (h8 : n 8 = 3 * (w + 1) * (h + 1)) (hx : x < w) (hy : y < h) : (y + 1) * (3 * (w + 1)) + 3 * (x + 1) + 3 ≤ n 8 ∧ n 8 ≤ 7203 := by
  obtain ⟨w1, w2, h1, h2⟩ := hd
  have m3 : (y + 1) * (3 * (w + 1)) + 3 * (w + 1) ≤ n 8 := by
    rw [h8, Nat.mul_comm (3 * (w + 1)) (h + 1), ← Nat.succ_mul]
    exact Nat.mul_le_mul_right _ (by omega)
  have m4 : n 8 ≤ 3 * 49 * 49 := by rw [h8]; exact Nat.mul_le_mul (by omega) (by omega)
  omega
theorem w_paint {n : Nat → Nat} {w h x y : Nat} {col : Nat → Nat → Nat} {pb : Nat → Int32} {c : Int32} {post : (Nat → Int32) → Prop} (hd : Dim w h) (h8 : n 8 = 3 * (w + 1) * (h + 1)) (hx : x < w) (hy : y < h) (hP : Padded w h (Qc col) pb) (hp : ∀ pb', Padded w h (Qc (colS col x y (uN3 c % 16777216))) pb' → post pb') :
    wp_Pic_paint n (nI (3 * (w + 1))) pb (nI x) (nI y) c post := by
  have hpl := place_le hd h8 hx hy
  unfold wp_Pic_paint
  refine w_place ?_
  refine ⟨fun q => absurd q (nI_pos (by omega)), fun _ => ?_⟩
  rw [show (2 : Int32) = nI 2 from rfl, pk_sub (by omega)]
  refine ⟨fun q => absurd q (nI_ge (by omega) (by omega)), fun _ => ?_⟩
  intro z5 hz5
  refine ⟨vp_in_nI (by omega) (by omega), ?_⟩
  intro f7 hf7 z8 hz8
  rw [nI_1, nI_add]
  refine ⟨vp_in_nI (by omega) (by omega), ?_⟩
  intro f10 hf10 z11 hz11
  refine ⟨vp_in_nI (by omega) (by omega), ?_⟩
  intro f13 hf13
  rw [nI_clamp (by omega)] at hf7 hf10 hf13
  rw [by_sshr c (k := 16) (by decide) (by decide)] at hz5
  rw [by_sshr c (k := 8) (by decide) (by decide)] at hz8
  rw [by_low c] at hz11
  refine hp f13 ?_
  intro r j hr hj
  rw [hf13, hf10, hf7]
  have key : ∀ t, t < 3 → r * (3 * (w + 1)) + j = (y + 1) * (3 * (w + 1)) + 3 * (x + 1) + t → r = y + 1 ∧ j = 3 * (x + 1) + t := by
    intro t ht e
    exact split_uniq (s := 3 * (w + 1)) hj (by omega) (by omega)
  have val : ∀ t, t < 3 → Qc (colS col x y (uN3 c % 16777216)) (y + 1) (3 * (x + 1) + t) = uN3 c % 16777216 / 2 ^ (16 - 8 * t) % 256 := by
    intro t ht
    rw [show 3 * (x + 1) + t = (3 * x + t) + 3 by omega, Qc_in, show (3 * x + t) / 3 = x by omega, show (3 * x + t) % 3 = t by omega]
    unfold colS
    rw [if_pos ⟨rfl, rfl⟩]
  by_cases e2 : r * (3 * (w + 1)) + j = (y + 1) * (3 * (w + 1)) + 3 * (x + 1) + 2
  · obtain ⟨a, b⟩ := key 2 (by decide) e2
    rw [e2, pk_us, hz11, a, b, val 2 (by decide)]
    congr 1
    show uN3 c % 256 = uN3 c % 16777216 / 1 % 256
    omega
  · rw [pk_un e2]
    by_cases e1 : r * (3 * (w + 1)) + j = (y + 1) * (3 * (w + 1)) + 3 * (x + 1) + 1
    · obtain ⟨a, b⟩ := key 1 (by decide) e1
      rw [e1, pk_us, hz8, a, b, val 1 (by decide)]
      congr 1
      show uN3 c / 256 % 256 = uN3 c % 16777216 / 256 % 256
      omega
    · rw [pk_un e1]
      by_cases e0 : r * (3 * (w + 1)) + j = (y + 1) * (3 * (w + 1)) + 3 * (x + 1)
      · obtain ⟨a, b⟩ := key 0 (by decide) e0
        rw [e0, pk_us, hz5, a, b, val 0 (by decide)]
        congr 1
        show uN3 c / 65536 % 256 = uN3 c % 16777216 / 65536 % 256
        omega
      · rw [pk_un e0, hP r j hr hj]
        congr 1
        unfold Qc
        by_cases h0 : r = 0 ∨ j < 3
        · rw [if_pos h0, if_pos h0]
        · rw [if_neg h0, if_neg h0]
          congr 2
          unfold colS
          rw [if_neg]
          intro hc
          have hj2 : j = 3 * (x + 1) + (j - 3) % 3 := by omega
          have hr2 : r = y + 1 := by omega
          subst hr2
          have : (j - 3) % 3 = 0 ∨ (j - 3) % 3 = 1 ∨ (j - 3) % 3 = 2 := by omega
          rcases this with q | q | q
          · exact e0 (by omega)
          · exact e1 (by omega)
          · exact e2 (by omega)
theorem ni_or {a b : Nat} (ha : a < 4294967296) (hb : b < 4294967296) : nI a ||| nI b = nI (a ||| b) := by
  apply Int32.toBitVec_inj.mp
  apply BitVec.eq_of_toNat_eq
  have e : (nI a ||| nI b).toBitVec = (nI a).toBitVec ||| (nI b).toBitVec := rfl
  rw [e, BitVec.toNat_or, pk_tn ha, pk_tn hb, pk_tn (Nat.or_lt_two_pow (n := 32) ha hb)]
theorem w_colour {n : Nat → Nat} {w h x y : Nat} {col : Nat → Nat → Nat} {pb : Nat → Int32} {post : Int32 → Unit → Prop} (hd : Dim w h) (h8 : n 8 = 3 * (w + 1) * (h + 1)) (hx : x < w) (hy : y < h) (hB : ColB col) (hP : Padded w h (Qc col) pb) (hp : post (nI (col x y)) ()) :
    wp_Pic_colourOf n (nI (3 * (w + 1))) pb (nI x) (nI y) post := by
  have hpl := place_le hd h8 hx hy
  have hb := hB x y
  unfold wp_Pic_colourOf
  refine w_place ?_
  refine ⟨fun q => absurd q (nI_pos (by omega)), fun _ => ?_⟩
  rw [show (2 : Int32) = nI 2 from rfl, pk_sub (by omega)]
  refine ⟨fun _ => ?_, fun q => absurd (nI_lt (by omega) (by omega)) q⟩
  rw [nI_1, nI_add]
  refine ⟨vp_in_nI (by omega) (by omega), vp_in_nI (by omega) (by omega), vp_in_nI (by omega) (by omega), ?_⟩
  rw [nI_clamp (by omega), nI_clamp (by omega), nI_clamp (by omega)]
  have val : ∀ t, t < 3 → Qc col (y + 1) (3 * (x + 1) + t) = col x y / 2 ^ (16 - 8 * t) % 256 := by
    intro t ht
    rw [show 3 * (x + 1) + t = (3 * x + t) + 3 by omega, Qc_in, show (3 * x + t) / 3 = x by omega, show (3 * x + t) % 3 = t by omega]
  have v0 := hP (y + 1) (3 * (x + 1) + 0) (by omega) (by omega)
  have v1 := hP (y + 1) (3 * (x + 1) + 1) (by omega) (by omega)
  have v2 := hP (y + 1) (3 * (x + 1) + 2) (by omega) (by omega)
  rw [val 0 (by decide)] at v0
  have v0 : pb ((y + 1) * (3 * (w + 1)) + 3 * (x + 1)) = nI (col x y / 2 ^ (16 - 8 * 0) % 256) := v0
  rw [val 1 (by decide), ← Nat.add_assoc] at v1
  rw [val 2 (by decide), ← Nat.add_assoc] at v2
  rw [v0, v1, v2]
  have w0 : col x y / 2 ^ (16 - 8 * 0) % 256 = col x y / 65536 := by
    show col x y / 65536 % 256 = _
    omega
  have w1 : col x y / 2 ^ (16 - 8 * 1) % 256 = col x y / 256 % 256 := rfl
  have w2 : col x y / 2 ^ (16 - 8 * 2) % 256 = col x y % 256 := by
    show col x y / 1 % 256 = _
    omega
  rw [w0, w1, w2]
  have s0 : nI (col x y / 65536) <<< ((16 : Int32) &&& 31) = nI (col x y / 65536 * 65536) := ni_shl (k := 16) (by decide) (by omega)
  have s1 : nI (col x y / 256 % 256) <<< ((8 : Int32) &&& 31) = nI (col x y / 256 % 256 * 256) := ni_shl (k := 8) (by decide) (by omega)
  rw [s0, s1, ni_or (by omega) (by omega)]
  have o1 : (col x y / 65536 * 65536) ||| (col x y / 256 % 256 * 256) = col x y / 65536 * 65536 + col x y / 256 % 256 * 256 := by
    have := Nat.two_pow_add_eq_or_of_lt (i := 16) (b := col x y / 256 % 256 * 256) (by omega) (col x y / 65536)
    rw [Nat.mul_comm (2 ^ 16)] at this
    exact this.symm
  rw [o1, ni_or (by omega) (by omega)]
  have o2 : (col x y / 65536 * 65536 + col x y / 256 % 256 * 256) ||| (col x y % 256) = col x y := by
    have e : col x y / 65536 * 65536 + col x y / 256 % 256 * 256 = 2 ^ 8 * (col x y / 256) := by omega
    rw [e]
    have := Nat.two_pow_add_eq_or_of_lt (i := 8) (b := col x y % 256) (by omega) (col x y / 256)
    rw [← this]
    omega
  rw [o2]
  exact hp
/-- is there such a pixel -/
theorem in_cases (w h : Nat) (hd : Dim w h) (x y : Int32) : (¬ (∃ a b, a < w ∧ b < h ∧ x = nI a ∧ y = nI b)) ∨ (∃ a b, a < w ∧ b < h ∧ x = nI a ∧ y = nI b) := (Classical.em _).symm
theorem w_hasY {n : Nat → Nat} {w h a b : Nat} {post : Int32 → Unit → Prop} (hd : Dim w h) (ha : a < w) (hb : b < h) (hp : post 1 ()) : wp_Pic_has n (nI w) (nI h) (nI a) (nI b) post := by
  obtain ⟨w1, w2, h1, h2⟩ := hd
  unfold wp_Pic_has
  exact ⟨fun q => absurd q (nI_pos (by omega)), fun _ => ⟨fun q => absurd q (nI_ge ha (by omega)), fun _ => ⟨fun q => absurd q (nI_pos (by omega)), fun _ => ⟨fun q => absurd q (nI_ge hb (by omega)), fun _ => ⟨rfl, hp⟩⟩⟩⟩⟩
theorem no_pix {w h : Nat} {x y : Int32} (hd : Dim w h) (hno : ¬ ∃ a b, a < w ∧ b < h ∧ x = nI a ∧ y = nI b) : x < 0 ∨ nI w ≤ x ∨ y < 0 ∨ nI h ≤ y := by
  obtain ⟨w1, w2, h1, h2⟩ := hd
  rcases pk_ix x (n := w) (by omega) with q | q | ⟨a, ha, ea⟩
  · exact Or.inl q
  · exact Or.inr (Or.inl q)
  · rcases pk_ix y (n := h) (by omega) with q | q | ⟨b, hb, eb⟩
    · exact Or.inr (Or.inr (Or.inl q))
    · exact Or.inr (Or.inr (Or.inr q))
    · exact absurd ⟨a, b, ha, hb, ea, eb⟩ hno
theorem w_hasN {n : Nat → Nat} {w h : Nat} {x y : Int32} {post : Int32 → Unit → Prop} (hd : Dim w h) (hno : ¬ ∃ a b, a < w ∧ b < h ∧ x = nI a ∧ y = nI b) (hp : post 0 ()) : wp_Pic_has n (nI w) (nI h) x y post := by
  have hc := no_pix hd hno
  unfold wp_Pic_has
  exact ⟨fun _ => ⟨rfl, hp⟩, fun q1 => ⟨fun _ => ⟨rfl, hp⟩, fun q2 => ⟨fun _ => ⟨rfl, hp⟩, fun q3 => ⟨fun _ => ⟨rfl, hp⟩, fun q4 => by
    rcases hc with q | q | q | q
    · exact absurd q q1
    · exact absurd q q2
    · exact absurd q q3
    · exact absurd q q4⟩⟩⟩⟩
theorem m_inY {n : Nat → Nat} {w h a b : Nat} {post : Int32 → Unit → Prop} (hd : Dim w h) (ha : a < w) (hb : b < h) (hp : post 1 ()) : wp_Mod_in n (nI w) (nI h) (nI a) (nI b) post := by
  obtain ⟨w1, w2, h1, h2⟩ := hd
  unfold wp_Mod_in
  exact ⟨fun q => absurd q (nI_pos (by omega)), fun _ => ⟨fun q => absurd q (nI_ge ha (by omega)), fun _ => ⟨fun q => absurd q (nI_pos (by omega)), fun _ => ⟨fun q => absurd q (nI_ge hb (by omega)), fun _ => ⟨rfl, hp⟩⟩⟩⟩⟩
theorem m_inN {n : Nat → Nat} {w h : Nat} {x y : Int32} {post : Int32 → Unit → Prop} (hd : Dim w h) (hno : ¬ ∃ a b, a < w ∧ b < h ∧ x = nI a ∧ y = nI b) (hp : post 0 ()) : wp_Mod_in n (nI w) (nI h) x y post := by
  have hc := no_pix hd hno
  unfold wp_Mod_in
  exact ⟨fun _ => ⟨rfl, hp⟩, fun q1 => ⟨fun _ => ⟨rfl, hp⟩, fun q2 => ⟨fun _ => ⟨rfl, hp⟩, fun q3 => ⟨fun _ => ⟨rfl, hp⟩, fun q4 => by
    rcases hc with q | q | q | q
    · exact absurd q q1
    · exact absurd q q2
    · exact absurd q q3
    · exact absurd q q4⟩⟩⟩⟩
theorem ni_24 (c : Int32) : c &&& 16777215 = nI (uN3 c % 16777216) := pk_and c 24 (by decide)
theorem Cols.set {w h xx yy c : Nat} {col : Nat → Nat → Nat} {mc : Nat → Int32} (hw : w ≤ 48) (hx : xx < w) (hC : Cols w h col mc) : Cols w h (colS col xx yy c) (upd mc (48 * yy + xx) (nI c)) := by
  intro x y hx2 hy2
  unfold colS
  by_cases e : x = xx ∧ y = yy
  · rw [if_pos e, e.1, e.2, pk_us]
  · rw [if_neg e, pk_un (by omega)]
    exact hC x y hx2 hy2
/-- what a picture becomes by set -/
def setC (w h : Nat) (col : Nat → Nat → Nat) (x y c : Int32) : Nat → Nat → Nat := fun a b => if a < w ∧ b < h ∧ x = nI a ∧ y = nI b then uN3 c % 16777216 else col a b
theorem setC_no {w h : Nat} {col : Nat → Nat → Nat} {x y c : Int32} (hno : ¬ ∃ a b, a < w ∧ b < h ∧ x = nI a ∧ y = nI b) : setC w h col x y c = col := by
  funext a b
  unfold setC
  rw [if_neg (fun q => hno ⟨a, b, q⟩)]
theorem setC_yes {w h xx yy : Nat} {col : Nat → Nat → Nat} {c : Int32} (hd : Dim w h) (hx : xx < w) (hy : yy < h) : setC w h col (nI xx) (nI yy) c = colS col xx yy (uN3 c % 16777216) := by
  obtain ⟨w1, w2, h1, h2⟩ := hd
  funext a b
  unfold setC colS
  by_cases e : a = xx ∧ b = yy
  · rw [if_pos e, if_pos ⟨by omega, by omega, by rw [e.1], by rw [e.2]⟩]
  · rw [if_neg e, if_neg]
    intro q
    have e1 := (nI_eq (by omega) (by omega)).mp q.2.2.1
    have e2 := (nI_eq (by omega) (by omega)).mp q.2.2.2
    exact e ⟨e1.symm, e2.symm⟩
theorem setC_B {w h : Nat} {col : Nat → Nat → Nat} {x y c : Int32} (h1 : ColB col) : ColB (setC w h col x y c) := by
  intro a b
  unfold setC
  split
  · exact Nat.mod_lt _ (by decide)
  · exact h1 a b
def inB (w h : Nat) (x y : Int32) : Prop := ∃ a b, a < w ∧ b < h ∧ x = nI a ∧ y = nI b
theorem w_set {n : Nat → Nat} {w h : Nat} {col : Nat → Nat → Nat} {pb : Nat → Int32} {x y c : Int32} {post : Int32 → (Nat → Int32) → Prop} (hd : Dim w h) (h8 : n 8 = 3 * (w + 1) * (h + 1)) (hP : Padded w h (Qc col) pb) (hp : ∀ pb', Padded w h (Qc (setC w h col x y c)) pb' → ∀ r, (inB w h x y → r = 1) → (¬ inB w h x y → r = 0) → post r pb') :
    wp_PP_set n (nI w) (nI h) (nI (3 * (w + 1))) pb x y c post := by
  unfold wp_PP_set
  by_cases hi : inB w h x y
  · obtain ⟨a, b, ha, hb, ea, eb⟩ := id hi
    rw [ea, eb]
    refine w_hasY hd ha hb ⟨fun _ => ?_, fun q => absurd q (by decide)⟩
    refine w_paint hd h8 ha hb hP (fun pb' hP' => ⟨rfl, ?_⟩)
    refine hp pb' (by rw [ea, eb, setC_yes hd ha hb]; exact hP') 1 (fun _ => rfl) (fun q => absurd hi q)
  · refine w_hasN hd hi ⟨fun q => absurd rfl q, fun _ => ⟨rfl, ?_⟩⟩
    exact hp pb (by rw [setC_no hi]; exact hP) 0 (fun q => absurd q hi) (fun _ => rfl)
theorem m_set {n : Nat → Nat} {w h : Nat} {col : Nat → Nat → Nat} {mc : Nat → Int32} {i0 x y c : Int32} {post : Int32 → Int32 × (Nat → Int32) → Prop} (hd : Dim w h) (h15 : n 15 = 2304) (hC : Cols w h col mc) (hp : ∀ mc' t, Cols w h (setC w h col x y c) mc' → ∀ r, (inB w h x y → r = 1) → (¬ inB w h x y → r = 0) → post r (t, mc')) :
    wp_Mod_set n i0 (nI w) (nI h) mc x y c post := by
  have hw := hd.2.1
  have hh := hd.2.2.2
  unfold wp_Mod_set
  by_cases hi : inB w h x y
  · obtain ⟨a, b, ha, hb, ea, eb⟩ := id hi
    rw [ea, eb]
    refine m_inY hd ha hb ⟨fun _ => ?_, fun q => absurd q (by decide)⟩
    intro z hz
    rw [show (48 : Int32) = nI 48 from rfl, pk_mul, nI_add]
    refine ⟨vp_in_nI (by omega) (by omega), ?_⟩
    intro f hf
    rw [nI_clamp (by omega), hz, ni_24] at hf
    refine ⟨rfl, ?_⟩
    exact hp f _ (by rw [ea, eb, setC_yes hd ha hb, hf]; exact hC.set hw ha) 1 (fun _ => rfl) (fun q => absurd hi q)
  · refine m_inN hd hi ⟨fun q => absurd rfl q, fun _ => ⟨rfl, ?_⟩⟩
    exact hp mc _ (by rw [setC_no hi]; exact hC) 0 (fun q => absurd q hi) (fun _ => rfl)
def pixI (w h : Nat) (col : Nat → Nat → Nat) (x y r : Int32) : Prop := (∀ a b, a < w → b < h → x = nI a → y = nI b → r = nI (col a b)) ∧ (¬ inB w h x y → r = -1)
theorem w_pixel {n : Nat → Nat} {w h : Nat} {col : Nat → Nat → Nat} {pb : Nat → Int32} {x y : Int32} {post : Int32 → Unit → Prop} (hd : Dim w h) (h8 : n 8 = 3 * (w + 1) * (h + 1)) (hB : ColB col) (hP : Padded w h (Qc col) pb) (hp : ∀ r, pixI w h col x y r → post r ()) : wp_PP_pixel n (nI w) (nI h) (nI (3 * (w + 1))) pb x y post := by
  obtain ⟨w1, w2, h1, h2⟩ := id hd
  unfold wp_PP_pixel
  by_cases hi : inB w h x y
  · obtain ⟨a, b, ha, hb, ea, eb⟩ := id hi
    rw [ea, eb]
    refine w_hasY hd ha hb ⟨fun q => absurd q (by decide), fun _ => ?_⟩
    refine w_colour hd h8 ha hb hB hP (hp _ ⟨fun a' b' ha' hb' e1 e2 => ?_, fun q => absurd hi q⟩)
    rw [ea] at e1
    rw [eb] at e2
    rw [(nI_eq (by omega) (by omega)).mp e1, (nI_eq (by omega) (by omega)).mp e2]
  · refine w_hasN hd hi ⟨fun _ => ?_, fun q => absurd rfl q⟩
    exact hp _ ⟨fun a b ha hb e1 e2 => absurd ⟨a, b, ha, hb, e1, e2⟩ hi, fun _ => rfl⟩
theorem m_pixel {n : Nat → Nat} {w h : Nat} {col : Nat → Nat → Nat} {mc : Nat → Int32} {i0 x y : Int32} {post : Int32 → Int32 → Prop} (hd : Dim w h) (h15 : n 15 = 2304) (hC : Cols w h col mc) (hp : ∀ r t, pixI w h col x y r → post r t) : wp_Mod_pixel n i0 (nI w) (nI h) mc x y post := by
  obtain ⟨w1, w2, h1, h2⟩ := id hd
  unfold wp_Mod_pixel
  by_cases hi : inB w h x y
  · obtain ⟨a, b, ha, hb, ea, eb⟩ := id hi
    rw [ea, eb]
    refine m_inY hd ha hb ⟨fun q => absurd q (by decide), fun _ => ?_⟩
    rw [show (48 : Int32) = nI 48 from rfl, pk_mul, nI_add]
    refine ⟨vp_in_nI (by omega) (by omega), ?_⟩
    rw [nI_clamp (by omega), hC a b ha hb]
    refine hp _ _ ⟨fun a' b' ha' hb' e1 e2 => ?_, fun q => absurd hi q⟩
    rw [ea] at e1
    rw [eb] at e2
    rw [(nI_eq (by omega) (by omega)).mp e1, (nI_eq (by omega) (by omega)).mp e2]
  · refine m_inN hd hi ⟨fun _ => ?_, fun q => absurd rfl q⟩
    exact hp _ _ ⟨fun a b ha hb e1 e2 => absurd ⟨a, b, ha, hb, e1, e2⟩ hi, fun _ => rfl⟩
theorem pixI_eq {w h : Nat} {col : Nat → Nat → Nat} {x y r r' : Int32} (h1 : pixI w h col x y r) (h2 : pixI w h col x y r') : r = r' := by
  by_cases hi : inB w h x y
  · obtain ⟨a, b, ha, hb, ea, eb⟩ := hi
    rw [h1.1 a b ha hb ea eb, h2.1 a b ha hb ea eb]
  · rw [h1.2 hi, h2.2 hi]
