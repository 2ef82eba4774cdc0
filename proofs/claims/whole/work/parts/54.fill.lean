/-! PURE: fill, both sides -/
/-- columns lo .. X - 1 of row yy are of colour c -/
def fillC (col : Nat → Nat → Nat) (yy c lo X : Nat) : Nat → Nat → Nat := fun x y => if y = yy ∧ lo ≤ x ∧ x < X then c else col x y
theorem fillC_none {col : Nat → Nat → Nat} {yy c lo X : Nat} (h : X ≤ lo) : fillC col yy c lo X = col := by
  funext x y
  unfold fillC
  rw [if_neg (by omega)]
theorem fillC_step {col : Nat → Nat → Nat} {yy c lo X : Nat} (h : lo ≤ X) : colS (fillC col yy c lo X) X yy c = fillC col yy c lo (X + 1) := by
  funext x y
  unfold colS fillC
  by_cases e : x = X ∧ y = yy
  · rw [if_pos e, if_pos (by omega)]
  · rw [if_neg e]
    by_cases e2 : y = yy ∧ lo ≤ x ∧ x < X
    · rw [if_pos e2, if_pos (by omega)]
    · rw [if_neg e2, if_neg (by omega)]
theorem fillC_B {col : Nat → Nat → Nat} {yy c lo X : Nat} (h : ColB col) (hc : c < 16777216) : ColB (fillC col yy c lo X) := by
  intro x y
  unfold fillC
  split
  · exact hc
  · exact h x y
/-- the first column that is meant, and the one behind the last -/
theorem range_lo (x2 : Int32) : ∃ lo : Nat, lo < 2 ^ 31 ∧ (if x2 < 0 then 0 else x2) = nI lo ∧ ∀ x, x < 2 ^ 31 → (nI x < x2 ↔ x < lo) := by
  by_cases h : x2 < 0
  · refine ⟨0, by decide, by rw [if_pos h]; rfl, fun x hx => ⟨fun q => ?_, fun q => absurd q (Nat.not_lt_zero x)⟩⟩
    exact absurd (Int32.lt_trans q h) (nI_pos hx)
  · obtain ⟨j, hj, e⟩ := nI_of h
    refine ⟨j, hj, by rw [if_neg h, e], fun x hx => ?_⟩
    rw [e]
    exact nI_ltI hx hj
theorem range_hi (w : Nat) (h1 : 1 ≤ w) (h2 : w ≤ 48) (x3 : Int32) : ∃ hi : Nat, hi ≤ w ∧ (0 < hi → (if nI w - 1 < x3 then nI w - 1 else x3) = nI (hi - 1)) ∧ (hi = 0 → (if nI w - 1 < x3 then nI w - 1 else x3) < 0) ∧ ∀ x, x < w → (x3 < nI x ↔ hi ≤ x) := by
  rw [show (1 : Int32) = nI 1 from rfl, pk_sub h1]
  by_cases h : x3 < 0
  · refine ⟨0, by omega, fun q => absurd q (by omega), fun _ => ?_, fun x hx => ⟨fun _ => Nat.zero_le x, fun _ => ?_⟩⟩
    · have : ¬ nI (w - 1) < x3 := fun q => absurd (Int32.lt_trans q h) (nI_pos (by omega))
      rw [if_neg this]; exact h
    · exact Int32.lt_of_lt_of_le h (nI_pos' (by omega))
  · obtain ⟨j, hj, e⟩ := nI_of h
    subst e
    by_cases hw : w - 1 < j
    · refine ⟨w, Nat.le_refl w, fun _ => by rw [if_pos (nI_lt hw hj)], fun q => absurd q (by omega), fun x hx => ⟨fun q => ?_, fun q => absurd hx (by omega)⟩⟩
      have := (nI_ltI hj (by omega)).mp q
      omega
    · refine ⟨j + 1, by omega, fun _ => by rw [if_neg (nI_nlt (by omega) (by omega))]; rfl, fun q => absurd q (by omega), fun x hx => ?_⟩
      rw [nI_ltI hj (by omega)]
      omega
/-- what fill makes and answers -/
def filI (w h : Nat) (col : Nat → Nat → Nat) (y x2 x3 c r : Int32) (col' : Nat → Nat → Nat) : Prop :=
  (∀ yy, yy < h → y = nI yy → ∀ lo hi, lo < 2 ^ 31 → (∀ x, x < 2 ^ 31 → (nI x < x2 ↔ x < lo)) → hi ≤ w → (∀ x, x < w → (x3 < nI x ↔ hi ≤ x)) → r = nI (hi - lo) ∧ col' = fillC col yy (uN3 c % 16777216) lo hi) ∧ ((¬ ∃ yy, yy < h ∧ y = nI yy) → r = 0 ∧ col' = col)
theorem filI_eq {w h : Nat} {col c1 c2 : Nat → Nat → Nat} {y x2 x3 c r r' : Int32} (hw1 : 1 ≤ w) (hw2 : w ≤ 48) (h1 : filI w h col y x2 x3 c r c1) (h2 : filI w h col y x2 x3 c r' c2) : r = r' ∧ c1 = c2 := by
  obtain ⟨lo, l1, -, l3⟩ := range_lo x2
  obtain ⟨hi, k1, -, -, k4⟩ := range_hi w hw1 hw2 x3
  by_cases hy : ∃ yy, yy < h ∧ y = nI yy
  · obtain ⟨yy, hy1, hy2⟩ := hy
    have a := h1.1 yy hy1 hy2 lo hi l1 l3 k1 k4
    have b := h2.1 yy hy1 hy2 lo hi l1 l3 k1 k4
    exact ⟨a.1.trans b.1.symm, a.2.trans b.2.symm⟩
  · have a := h1.2 hy
    have b := h2.2 hy
    exact ⟨a.1.trans b.1.symm, a.2.trans b.2.symm⟩
theorem lo_uniq {x2 : Int32} {lo lo' : Nat} (h1 : lo < 2 ^ 31) (h2 : lo' < 2 ^ 31) (a : ∀ x, x < 2 ^ 31 → (nI x < x2 ↔ x < lo)) (b : ∀ x, x < 2 ^ 31 → (nI x < x2 ↔ x < lo')) : lo = lo' := by
  rcases Nat.lt_trichotomy lo lo' with q | q | q
  · exact absurd ((a lo h1).mp ((b lo h1).mpr q)) (Nat.lt_irrefl _)
  · exact q
  · exact absurd ((b lo' h2).mp ((a lo' h2).mpr q)) (Nat.lt_irrefl _)
theorem hi_uniq {w : Nat} {x3 : Int32} {hi hi' : Nat} (h1 : hi ≤ w) (h2 : hi' ≤ w) (a : ∀ x, x < w → (x3 < nI x ↔ hi ≤ x)) (b : ∀ x, x < w → (x3 < nI x ↔ hi' ≤ x)) : hi = hi' := by
  rcases Nat.lt_trichotomy hi hi' with q | q | q
  · exact absurd ((b hi (by omega)).mp ((a hi (by omega)).mpr (Nat.le_refl _))) (by omega)
  · exact q
  · exact absurd ((a hi' (by omega)).mp ((b hi' (by omega)).mpr (Nat.le_refl _))) (by omega)
theorem filI_mk {w h yy lo hi : Nat} {col : Nat → Nat → Nat} {x2 x3 c : Int32} (hh : h ≤ 48) (hy : yy < h) (l1 : lo < 2 ^ 31) (l3 : ∀ x, x < 2 ^ 31 → (nI x < x2 ↔ x < lo)) (k1 : hi ≤ w) (k4 : ∀ x, x < w → (x3 < nI x ↔ hi ≤ x)) : filI w h col (nI yy) x2 x3 c (nI (hi - lo)) (fillC col yy (uN3 c % 16777216) lo hi) := by
  refine ⟨fun y2 hy2 e lo' hi' a1 a3 b1 b4 => ?_, fun q => absurd ⟨yy, hy, rfl⟩ q⟩
  have e1 := (nI_eq (by omega) (by omega)).mp e
  rw [← e1, lo_uniq l1 a1 l3 a3, hi_uniq k1 b1 k4 b4]
  exact ⟨rfl, rfl⟩
theorem w_fillP {n : Nat → Nat} {w h : Nat} {col : Nat → Nat → Nat} {pb : Nat → Int32} {y x2 x3 c : Int32} {post : Int32 → (Nat → Int32) → Prop} (hd : Dim w h) (h8 : n 8 = 3 * (w + 1) * (h + 1)) (hP : Padded w h (Qc col) pb) (hp : ∀ r pb' col', filI w h col y x2 x3 c r col' → Padded w h (Qc col') pb' → post r pb') :
    wp_PP_fill n (nI w) (nI h) (nI (3 * (w + 1))) pb y x2 x3 c post := by
  obtain ⟨w1, w2, h1, h2⟩ := id hd
  obtain ⟨lo, l1, l2, l3⟩ := range_lo x2
  obtain ⟨hi, k1, k2, k3, k4⟩ := range_hi w w1 w2 x3
  unfold wp_PP_fill
  intro z1 hz1 z2 hz2
  rw [l2] at hz1
  by_cases hy : ∃ yy, yy < h ∧ y = nI yy
  · obtain ⟨yy, hy1, hy2⟩ := hy
    rw [hy2]
    have hz : (0 : Int32) = nI 0 := rfl
    rw [hz]
    refine w_hasY hd (by omega) hy1 ⟨fun q => absurd q (by decide), fun _ => ⟨fun q => ?_, fun q => ?_⟩⟩
    · have h0 : 0 < hi := by
        rcases Nat.eq_zero_or_pos hi with q2 | q2
        · have := k3 q2
          rw [← hz2] at this
          rw [hz1] at q
          exact absurd (Int32.lt_of_le_of_lt q this) (nI_pos l1)
        · exact q2
      have e2 : z2 = nI (hi - 1) := by rw [hz2]; exact k2 h0
      rw [hz1, e2] at q
      have hle := (nI_leI l1 (by omega)).mp q
      rw [hz1, e2]
      have loop : ∀ (k X : Nat) (g : Nat → Int32), X + k = hi → lo ≤ X → Padded w h (Qc (fillC col yy (uN3 c % 16777216) lo X)) g → wp_PP_fill_47 n (nI w) (nI h) (nI (3 * (w + 1))) (nI yy) x2 x3 c post (k + 1) g (nI lo) (nI (hi - 1)) (nI X) := by
        intro k
        induction k with
        | zero =>
          intro X g hX hlo hg
          unfold wp_PP_fill_47
          refine ⟨fun _ => ?_, fun q => absurd (nI_lt (by omega) (by omega)) q⟩
          rw [pk_sub (by omega), nI_1, show hi - 1 - lo + 1 = hi - lo by omega]
          refine hp _ g (fillC col yy (uN3 c % 16777216) lo hi) (by rw [hy2]; exact filI_mk h2 hy1 l1 l3 k1 k4) ?_
          rw [show hi = X by omega]
          exact hg
        | succ k ih =>
          intro X g hX hlo hg
          unfold wp_PP_fill_47
          refine ⟨fun q => absurd q (nI_nlt (by omega) (by omega)), fun _ => ?_⟩
          refine w_paint hd h8 (by omega) hy1 hg (fun pb' hP' => ?_)
          intro z hz
          rw [hz, nI_1]
          rw [fillC_step hlo] at hP'
          exact ih (X + 1) pb' (by omega) (by omega) hP'
      exact ⟨_, loop (hi - lo) lo pb (by omega) (Nat.le_refl _) (by rw [fillC_none (Nat.le_refl _)]; exact hP)⟩
    · have hle : hi ≤ lo := by
        rcases Nat.lt_or_ge lo hi with q2 | q2
        · have e2 : z2 = nI (hi - 1) := by rw [hz2]; exact k2 (by omega)
          rw [hz1, e2] at q
          exact absurd (nI_le (by omega) (by omega)) q
        · exact q2
      have hm := filI_mk (col := col) (c := c) h2 hy1 l1 l3 k1 k4
      rw [fillC_none hle, show hi - lo = 0 by omega] at hm
      exact hp _ pb col (by rw [hy2]; exact hm) hP
  · refine w_hasN hd (fun ⟨a, b, ha, hb, ea, eb⟩ => hy ⟨b, hb, eb⟩) ⟨fun _ => ?_, fun q => absurd rfl q⟩
    exact hp _ pb col ⟨fun yy a b => absurd ⟨yy, a, b⟩ hy, fun _ => ⟨rfl, rfl⟩⟩ hP
theorem m_fillP {n : Nat → Nat} {w h : Nat} {col : Nat → Nat → Nat} {mc : Nat → Int32} {i0 y x2 x3 c : Int32} {post : Int32 → Int32 × (Nat → Int32) → Prop} (hd : Dim w h) (h15 : n 15 = 2304) (hC : Cols w h col mc) (hp : ∀ r t mc' col', filI w h col y x2 x3 c r col' → Cols w h col' mc' → post r (t, mc')) :
    wp_Mod_fill n i0 (nI w) (nI h) mc y x2 x3 c post := by
  obtain ⟨w1, w2, h1, h2⟩ := id hd
  obtain ⟨lo, l1, l2, l3⟩ := range_lo x2
  obtain ⟨hi, k1, k2, k3, k4⟩ := range_hi w w1 w2 x3
  unfold wp_Mod_fill
  by_cases hy : ∃ yy, yy < h ∧ y = nI yy
  · obtain ⟨yy, hy1, hy2⟩ := hy
    have loop : ∀ (k X : Nat) (g : Nat → Int32) (t : Int32), X + k = w → Cols w h (fillC col yy (uN3 c % 16777216) lo (min X hi)) g → wp_Mod_fill_11 n (nI w) (nI h) y x2 x3 c post (k + 1) t g (nI (min X hi - lo)) (nI X) := by
      intro k
      induction k with
      | zero =>
        intro X g t hX hg
        unfold wp_Mod_fill_11
        refine ⟨fun _ => ?_, fun q => absurd (nI_le (by omega) (by omega)) q⟩
        rw [show min X hi = hi by omega] at hg ⊢
        exact hp _ _ g _ (by rw [hy2]; exact filI_mk h2 hy1 l1 l3 k1 k4) hg
      | succ k ih =>
        intro X g t hX hg
        unfold wp_Mod_fill_11
        refine ⟨fun q => absurd q (nI_ge (by omega) (by omega)), fun _ => ?_⟩
        rw [hy2]
        refine m_inY hd (by omega) hy1 ⟨fun q => absurd q (by decide), fun _ => ⟨fun q => ?_, fun q => ⟨fun q2 => ?_, fun q2 => ?_⟩⟩⟩
        · have q3 := (l3 X (by omega)).mp q
          intro z hz
          rw [hz, nI_1, ← hy2]
          have := ih (X + 1) g t (by omega) (by
            rw [fillC_none (show min (X + 1) hi ≤ lo by omega)]
            rw [fillC_none (show min X hi ≤ lo by omega)] at hg
            exact hg)
          rw [show min (X + 1) hi - lo = min X hi - lo by omega] at this
          exact this
        · have q3 := (k4 X (by omega)).mp q2
          intro z hz
          rw [hz, nI_1, ← hy2]
          have e : min (X + 1) hi = min X hi := by omega
          have := ih (X + 1) g t (by omega) (by rw [e]; exact hg)
          rw [e] at this
          exact this
        · have q3 : ¬ X < lo := fun z => q ((l3 X (by omega)).mpr z)
          have q4 : ¬ hi ≤ X := fun z => q2 ((k4 X (by omega)).mpr z)
          intro z10 hz10
          rw [show (48 : Int32) = nI 48 from rfl, pk_mul, nI_add]
          refine ⟨vp_in_nI (by omega) (by omega), ?_⟩
          intro f hf z13 hz13 z14 hz14
          rw [nI_clamp (by omega), hz10, ni_24] at hf
          rw [hz13, hz14, nI_1, nI_1, ← hy2]
          have hg2 := hg.set (xx := X) (yy := yy) (c := uN3 c % 16777216) w2 (by omega)
          rw [show min X hi = X by omega, fillC_step (by omega)] at hg2
          have := ih (X + 1) f t (by omega) (by
            rw [show min (X + 1) hi = X + 1 by omega, hf]
            exact hg2)
          rw [show min (X + 1) hi - lo = min X hi - lo + 1 by omega] at this
          exact this
    have := loop w 0 mc 0 (by omega) (by rw [fillC_none (by omega)]; exact hC)
    rw [show min 0 hi - lo = 0 by omega] at this
    exact ⟨_, this⟩
  · have loop : ∀ (k X : Nat) (t : Int32), X + k = w → wp_Mod_fill_11 n (nI w) (nI h) y x2 x3 c post (k + 1) t mc 0 (nI X) := by
      intro k
      induction k with
      | zero =>
        intro X t hX
        unfold wp_Mod_fill_11
        refine ⟨fun _ => ?_, fun q => absurd (nI_le (by omega) (by omega)) q⟩
        exact hp _ _ mc col ⟨fun yy a b => absurd ⟨yy, a, b⟩ hy, fun _ => ⟨rfl, rfl⟩⟩ hC
      | succ k ih =>
        intro X t hX
        unfold wp_Mod_fill_11
        refine ⟨fun q => absurd q (nI_ge (by omega) (by omega)), fun _ => ?_⟩
        refine m_inN hd (fun ⟨a, b, ha, hb, ea, eb⟩ => hy ⟨b, hb, eb⟩) ⟨fun _ => ?_, fun q => absurd rfl q⟩
        intro z hz
        rw [hz, nI_1]
        exact ih (X + 1) t (by omega)
    exact ⟨_, loop w 0 0 (by omega)⟩
