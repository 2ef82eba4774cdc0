/-! PURE: new objects -/
theorem side_ex (x : Int32) : ∃ s : Nat, 1 ≤ s ∧ s ≤ 48 ∧ (if (1 : Int32) < (if (48 : Int32) < x then 48 else x) then if (48 : Int32) < x then 48 else x else 1) = nI s ∧ (1 ≤ x → x ≤ 48 → x = nI s) ∧ (1 ≤ x → ¬ x ≤ 48 → (48 : Int32) = nI s) ∧ (¬ 1 ≤ x → (1 : Int32) = nI s) := by
  by_cases h1 : 1 ≤ x
  · by_cases h2 : x ≤ 48
    · have h0 : ¬ x < 0 := fun q => by
        have := Int32.lt_of_le_of_lt h1 q
        exact absurd this (by decide)
      obtain ⟨j, hj, e⟩ := nI_of2 (M := 48) (n := 48) rfl h0 h2
      have h3 : 1 ≤ j := (nI_leI (a := 1) (by decide) (by omega)).mp (by rw [← e]; exact h1)
      have h4 : ¬ (48 : Int32) < x := by rw [e]; exact nI_nlt (a := 48) hj (by decide)
      refine ⟨j, h3, hj, ?_, fun _ _ => e, fun _ q => absurd h2 q, fun q => absurd h1 q⟩
      rw [if_neg h4]
      by_cases h5 : (1 : Int32) < x
      · rw [if_pos h5, e]
      · rw [if_neg h5]
        have h6 : ¬ 1 < j := fun q => h5 (by rw [e]; exact nI_lt (a := 1) q (by omega))
        rw [show j = 1 by omega]; rfl
    · refine ⟨48, by decide, by decide, ?_, fun _ q => absurd q h2, fun _ _ => rfl, fun q => absurd h1 q⟩
      have h3 : (48 : Int32) < x := Int32.not_le.mp h2
      rw [if_pos h3]
      rfl
  · have h2 : x < 1 := Int32.not_le.mp h1
    refine ⟨1, by decide, by decide, ?_, fun q => absurd q h1, fun q => absurd q h1, fun _ => rfl⟩
    have h3 : ¬ (48 : Int32) < x := fun q => absurd (Int32.lt_trans q h2) (by decide)
    rw [if_neg h3]
    have h4 : ¬ (1 : Int32) < x := fun q => absurd (Int32.lt_trans q h2) (by decide)
    rw [if_neg h4]
    rfl
theorem w_chkInit {n : Nat → Nat} {post : (Nat → Nat) × (Nat → Nat) × Int32 × (Nat → Int32) → Prop} (hp : ∀ (A N : Nat → Nat) (ct : Nat → Int32), N 12 = 256 → CT ct → post (A, N, 0, ct)) : wp_Chk_init n post := by
  unfold wp_Chk_init
  refine ⟨by decide, by decide, ?_⟩
  intro q1
  have e256 : (256 : Int32).toNatClampNeg = 256 := by decide
  have loop : ∀ (k i : Nat) (ct : Nat → Int32), i + k = 256 → (∀ j, j < i → ct j = st8 (nI j)) → wp_Chk_init_20 n q1 post (k + 1) ct (nI i) := by
    intro k
    induction k with
    | zero =>
      intro i ct hi hc
      unfold wp_Chk_init_20
      rw [e256]
      refine ⟨fun _ => ?_, fun q => absurd (nI_le (by omega) (by omega)) q⟩
      refine hp _ _ ct ?_ (fun j hj => hc j (by omega))
      rfl
    | succ k ih =>
      intro i ct hi hc
      unfold wp_Chk_init_20
      rw [e256]
      refine ⟨fun q => absurd q (nI_ge (by omega) (by omega)), fun _ => ?_⟩
      refine w_eight ?_
      refine ⟨vp_in_nI (by omega) (by omega), ?_⟩
      intro f hf z hz
      rw [hz, nI_1]
      refine ih (i + 1) f (by omega) (fun j hj => ?_)
      rw [hf, nI_clamp (by omega)]
      by_cases e : j = i
      · rw [e, pk_us]
      · rw [pk_un e]; exact hc j (by omega)
  exact ⟨_, loop 256 0 _ (by omega) (fun j h => absurd h (Nat.not_lt_zero j))⟩
theorem w_ppInit {n : Nat → Nat} {x1 x2 : Int32} {post : (Nat → Nat) × (Nat → Nat) × Int32 × Int32 × Int32 × Int32 × Int32 × Int32 × Int32 × Int32 × Int32 × Int32 × Int32 × Int32 × Int32 × Int32 × (Nat → Int32) × (Nat → Int32) × (Nat → Int32) × (Nat → Int32) × (Nat → Int32) × (Nat → Int32) × (Nat → Int32) → Prop} {w h : Nat} (hd : Dim w h) (ew : (if (1 : Int32) < (if (48 : Int32) < x1 then 48 else x1) then if (48 : Int32) < x1 then 48 else x1 else 1) = nI w) (eh : (if (1 : Int32) < (if (48 : Int32) < x2 then 48 else x2) then if (48 : Int32) < x2 then 48 else x2 else 1) = nI h)
    (hp : ∀ (A N : Nat → Nat) (fl ct : Nat → Int32), N 8 = 3 * (w + 1) * (h + 1) → N 9 = (3 * w + 1) * h → N 10 = h → N 11 = 63 + (9 * ((3 * w + 1) * h) + 17) / 8 → N 12 = 256 → N 13 = 1024 → N 14 = (3 * w + 1) * h → (∀ j, j < h → fl j = -1) → CT ct → post (A, N, nI w, nI h, nI (3 * (w + 1)), nI (3 * w), 0, 0, 0, 0, 0, 0, 0, 0, 0, 0, fun _ => 0, fun _ => 0, fl, fun _ => 0, ct, fun _ => 0, fun _ => 0)) : wp_PP_init n x1 x2 post := by
  obtain ⟨w1, w2, h1, h2⟩ := id hd
  have m8 : 3 * (w + 1) * (h + 1) ≤ 3 * 49 * 49 := Nat.mul_le_mul (by omega) (by omega)
  have m9 : (3 * w + 1) * h ≤ 145 * 48 := Nat.mul_le_mul (by omega) (by omega)
  unfold wp_PP_init
  intro q1
  unfold wp_PP_side
  rw [ew, eh]
  unfold wp_Pic_init
  intro z1 hz1 z2 hz2
  rw [nI_1, show (3 : Int32) = nI 3 from rfl, pk_mul] at hz1
  rw [hz1, nI_1, pk_mul] at hz2
  rw [hz2, hz1, nI_clamp (by omega)]
  refine ⟨nI_pos (by omega), by omega, ?_⟩
  intro q3 q8
  unfold wp_Rows_init
  intro y1 hy1 y2 hy2
  simp only at hy1
  rw [show (3 : Int32) = nI 3 from rfl, pk_mul] at hy1
  simp only at hy2
  rw [hy1, nI_1, pk_mul] at hy2
  rw [hy1, hy2, nI_clamp (by omega)]
  refine ⟨nI_pos (by omega), by omega, ?_⟩
  intro q3b
  simp only
  rw [nI_clamp (show h < 2 ^ 31 by omega)]
  refine ⟨nI_pos (by omega), by omega, ?_⟩
  intro q6
  refine w_fill (n := fun _ => h) (by omega) (fun fl hfl => ?_)
  intro q11
  unfold wp_Out_roomFor
  have eroom : (63 : Int32) + (9 * nI ((3 * w + 1) * h) + 10 + 7) / 8 = nI (63 + (9 * ((3 * w + 1) * h) + 17) / 8) := by
    rw [show (9 : Int32) = nI 9 from rfl, pk_mul, show (10 : Int32) = nI 10 from rfl, nI_add, show (7 : Int32) = nI 7 from rfl, nI_add, show (8 : Int32) = nI 8 from rfl, pk_div (by omega) (by decide) (by decide), show (63 : Int32) = nI 63 from rfl, nI_add]
  show wp_Out_init _ ((63 : Int32) + (9 * nI ((3 * w + 1) * h) + 10 + 7) / 8) _
  rw [eroom]
  unfold wp_Out_init
  rw [nI_clamp (by omega)]
  refine ⟨nI_pos (by omega), by omega, ?_⟩
  intro q1b q16
  refine w_chkInit (fun A N ct hN hct => ?_)
  intro q19
  unfold wp_Pak_init
  intro q1c
  unfold wp_Fin_init
  refine ⟨by decide, by decide, ?_⟩
  intro q1d z4 hz4
  have hz4 : z4 = nI ((3 * w + 1) * h) := hz4
  rw [hz4, nI_clamp (by omega)]
  refine ⟨nI_pos (by omega), by omega, ?_⟩
  intro q5
  refine hp _ _ fl ct ?_ ?_ ?_ ?_ ?_ ?_ ?_ hfl hct
  · rfl
  · rfl
  · rfl
  · rfl
  · exact hN
  · show (1024 : Int32).toNatClampNeg = 1024
    decide
  · rfl
theorem m_init {n : Nat → Nat} {x1 x2 : Int32} {w h : Nat} {post : (Nat → Nat) × (Nat → Nat) × Int32 × Int32 × Int32 × Int32 × Int32 × Int32 × Int32 × Int32 × Int32 × (Nat → Int32) × (Nat → Int32) × (Nat → Int32) → Prop} (a1 : 1 ≤ x1 → x1 ≤ 48 → x1 = nI w) (a2 : 1 ≤ x1 → ¬ x1 ≤ 48 → (48 : Int32) = nI w) (a3 : ¬ 1 ≤ x1 → (1 : Int32) = nI w) (b1 : 1 ≤ x2 → x2 ≤ 48 → x2 = nI h) (b2 : 1 ≤ x2 → ¬ x2 ≤ 48 → (48 : Int32) = nI h) (b3 : ¬ 1 ≤ x2 → (1 : Int32) = nI h)
    (hp : ∀ (A N : Nat → Nat), N 15 = 2304 → N 16 = 6960 → N 17 = 9000 → post (A, N, 0, nI w, nI h, 0, 0, 0, 0, 0, 0, fun _ => 0, fun _ => 0, fun _ => 0)) : wp_Mod_init n x1 x2 post := by
  have e1 : (2304 : Int32).toNatClampNeg = 2304 := by decide
  have e2 : (6960 : Int32).toNatClampNeg = 6960 := by decide
  have e3 : (9000 : Int32).toNatClampNeg = 9000 := by decide
  unfold wp_Mod_init
  refine ⟨by decide, by decide, ?_⟩
  intro q1
  refine ⟨by decide, by decide, ?_⟩
  intro q4
  refine ⟨by decide, by decide, ?_⟩
  intro q7
  have fin : ∀ (X Y : Int32), X = nI w → Y = nI h → post (fun k => if k = 15 then q1 else if k = 16 then q4 else if k = 17 then q7 else 0, fun k => if k = 15 then (2304 : Int32).toNatClampNeg else if k = 16 then (6960 : Int32).toNatClampNeg else if k = 17 then (9000 : Int32).toNatClampNeg else 0, 0, X, Y, 0, 0, 0, 0, 0, 0, fun _ => 0, fun _ => 0, fun _ => 0) := by
    intro X Y hX hY
    rw [hX, hY]
    exact hp _ _ e1 e2 e3
  refine ⟨fun c1 => ⟨fun c2 => ⟨fun d1 => ⟨fun d2 => fin _ _ (a1 c1 c2) (b1 d1 d2), fun d2 => fin _ _ (a1 c1 c2) (b2 d1 d2)⟩, fun d1 => fin _ _ (a1 c1 c2) (b3 d1)⟩, fun c2 => ⟨fun d1 => ⟨fun d2 => fin _ _ (a2 c1 c2) (b1 d1 d2), fun d2 => fin _ _ (a2 c1 c2) (b2 d1 d2)⟩, fun d1 => fin _ _ (a2 c1 c2) (b3 d1)⟩⟩, fun c1 => ⟨fun d1 => ⟨fun d2 => fin _ _ (a3 c1) (b1 d1 d2), fun d2 => fin _ _ (a3 c1) (b2 d1 d2)⟩, fun d1 => fin _ _ (a3 c1) (b3 d1)⟩⟩
