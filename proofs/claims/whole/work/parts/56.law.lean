/-! PURE: the law's loop -/
def Inv (n : Nat → Nat) (w h : Nat) (osz s1 s2 s3 msz t1 t2 t3 : Int32) (pb fl ob mc mr mf : Nat → Int32) : Prop :=
  ∃ (col : Nat → Nat → Nat) (bs : List Nat), ColB col ∧ Padded w h (Qc col) pb ∧ Cols w h col mc ∧ osz = nI bs.length ∧ msz = nI bs.length ∧ bs.length ≤ n 11 ∧ bs.length ≤ 9000 ∧ Rep bs ob ∧ Rep bs mf ∧ s1 = t1 ∧ s2 = t2 ∧ s3 = t3 ∧ (bs = [] → ∀ y, y < h → fl y = -1) ∧ (bs ≠ [] → ∀ y, y < h → fl y = mr ((3 * w + 1) * y))
def bytI (bs : List Nat) (x r : Int32) : Prop := (∀ k, k < bs.length → x = nI k → r = nI (bs.getD k 0)) ∧ ((¬ ∃ k, k < bs.length ∧ x = nI k) → r = -1)
theorem bytI_eq {bs : List Nat} {x r r' : Int32} (h1 : bytI bs x r) (h2 : bytI bs x r') : r = r' := by
  by_cases hi : ∃ k, k < bs.length ∧ x = nI k
  · obtain ⟨k, hk, e⟩ := hi
    rw [h1.1 k hk e, h2.1 k hk e]
  · rw [h1.2 hi, h2.2 hi]
theorem w_byteAt {n : Nat → Nat} {bs : List Nat} {ob : Nat → Int32} {x : Int32} {post : Int32 → Unit → Prop} (hn : n 11 < 2 ^ 31) (hl : bs.length ≤ n 11) (hr : Rep bs ob) (hp : ∀ r, bytI bs x r → post r ()) : wp_PP_byteAt n (nI bs.length) ob x post := by
  unfold wp_PP_byteAt
  have none : (¬ ∃ k, k < bs.length ∧ x = nI k) → post (-1) () := fun q => hp _ ⟨fun k hk e => absurd ⟨k, hk, e⟩ q, fun _ => rfl⟩
  refine ⟨fun q => none (fun ⟨k, hk, e⟩ => by rw [e] at q; exact absurd q (nI_pos (by omega))), fun q1 => ⟨fun q => none (fun ⟨k, hk, e⟩ => by rw [e] at q; exact absurd q (nI_ge hk (by omega))), fun q2 => ⟨fun q => none (fun ⟨k, hk, e⟩ => by rw [e] at q; exact absurd q (nI_ge (by omega) (by omega))), fun q3 => ?_⟩⟩⟩
  rcases pk_ix x (n := bs.length) (by omega) with q | q | ⟨j, hj, e⟩
  · exact absurd q q1
  · exact absurd q q2
  · rw [e]
    refine ⟨vp_in_nI (by omega) hn, ?_⟩
    rw [nI_clamp (by omega), hr j hj]
    refine hp _ ⟨fun k hk e2 => ?_, fun q => absurd ⟨j, hj, e⟩ q⟩
    rw [e] at e2
    rw [(nI_eq (by omega) (by omega)).mp e2]
theorem m_byteAt {n : Nat → Nat} {bs : List Nat} {mf : Nat → Int32} {i0 x : Int32} {post : Int32 → Int32 → Prop} (hn : n 17 = 9000) (hl : bs.length ≤ 9000) (hr : Rep bs mf) (hp : ∀ r t, bytI bs x r → post r t) : wp_Mod_byteAt n i0 (nI bs.length) mf x post := by
  unfold wp_Mod_byteAt
  have none : (¬ ∃ k, k < bs.length ∧ x = nI k) → post (-1) 0 := fun q => hp _ _ ⟨fun k hk e => absurd ⟨k, hk, e⟩ q, fun _ => rfl⟩
  refine ⟨fun q => none (fun ⟨k, hk, e⟩ => by rw [e] at q; exact absurd q (nI_pos (by omega))), fun q1 => ⟨fun q2 => ?_, fun q => none (fun ⟨k, hk, e⟩ => by rw [e] at q; exact absurd (nI_lt hk (by omega)) q)⟩⟩
  rcases pk_ix x (n := bs.length) (by omega) with q | q | ⟨j, hj, e⟩
  · exact absurd q q1
  · exact absurd q2 (Int32.not_lt.mpr q)
  · rw [e]
    refine ⟨vp_in_nI (by omega) (by omega), ?_⟩
    rw [nI_clamp (by omega), hr j hj]
    refine hp _ _ ⟨fun k hk e2 => ?_, fun q => absurd ⟨j, hj, e⟩ q⟩
    rw [e] at e2
    rw [(nI_eq (by omega) (by omega)).mp e2]
def fltI (h : Nat) (fl : Nat → Int32) (x r : Int32) : Prop := (∀ k, k < h → x = nI k → r = fl k) ∧ ((¬ ∃ k, k < h ∧ x = nI k) → r = -1)
theorem fltI_eq {h : Nat} {fl : Nat → Int32} {x r r' : Int32} (h1 : fltI h fl x r) (h2 : fltI h fl x r') : r = r' := by
  by_cases hi : ∃ k, k < h ∧ x = nI k
  · obtain ⟨k, hk, e⟩ := hi
    rw [h1.1 k hk e, h2.1 k hk e]
  · rw [h1.2 hi, h2.2 hi]
theorem w_filter {n : Nat → Nat} {h : Nat} {fl : Nat → Int32} {x : Int32} {post : Int32 → Unit → Prop} (hh : h ≤ 48) (h10 : n 10 = h) (hp : ∀ r, fltI h fl x r → post r ()) : wp_PP_filter n fl x post := by
  unfold wp_PP_filter
  rw [h10]
  have none : (¬ ∃ k, k < h ∧ x = nI k) → post (-1) () := fun q => hp _ ⟨fun k hk e => absurd ⟨k, hk, e⟩ q, fun _ => rfl⟩
  refine ⟨fun q => none (fun ⟨k, hk, e⟩ => by rw [e] at q; exact absurd q (nI_pos (by omega))), fun q1 => ⟨fun q => none (fun ⟨k, hk, e⟩ => by rw [e] at q; exact absurd q (nI_ge hk (by omega))), fun q2 => ?_⟩⟩
  rcases pk_ix x (n := h) (by omega) with q | q | ⟨j, hj, e⟩
  · exact absurd q q1
  · exact absurd q q2
  · rw [e]
    refine ⟨vp_in_nI (by omega) (by omega), ?_⟩
    rw [nI_clamp (by omega)]
    refine hp _ ⟨fun k hk e2 => ?_, fun q => absurd ⟨j, hj, e⟩ q⟩
    rw [e] at e2
    rw [(nI_eq (by omega) (by omega)).mp e2]
theorem m_filter {n : Nat → Nat} {w h : Nat} {bs : List Nat} {fl mr : Nat → Int32} {i0 x : Int32} {post : Int32 → Int32 → Prop} (hd : Dim w h) (h16 : n 16 = 6960) (hl : bs.length ≤ 9000) (h1 : bs = [] → ∀ y, y < h → fl y = -1) (h2 : bs ≠ [] → ∀ y, y < h → fl y = mr ((3 * w + 1) * y)) (hp : ∀ r t, fltI h fl x r → post r t) : wp_Mod_filter n i0 (nI w) (nI h) (nI bs.length) mr x post := by
  obtain ⟨w1, w2, hh1, hh2⟩ := id hd
  unfold wp_Mod_filter
  have none : (¬ ∃ k, k < h ∧ x = nI k) → post (-1) 0 := fun q => hp _ _ ⟨fun k hk e => absurd ⟨k, hk, e⟩ q, fun _ => rfl⟩
  refine ⟨fun q => ?_, fun q0 => ⟨fun q => none (fun ⟨k, hk, e⟩ => by rw [e] at q; exact absurd q (nI_pos (by omega))), fun q1 => ⟨fun q2 => ?_, fun q => none (fun ⟨k, hk, e⟩ => by rw [e] at q; exact absurd (nI_lt hk (by omega)) q)⟩⟩⟩
  · have hb : bs = [] := by
      have : nI bs.length = nI 0 := q
      exact List.eq_nil_of_length_eq_zero ((nI_eq (by omega) (by decide)).mp this)
    exact hp _ _ ⟨fun k hk _ => (h1 hb k hk).symm, fun _ => rfl⟩
  · have hb : bs ≠ [] := fun e => q0 (by rw [e]; rfl)
    rcases pk_ix x (n := h) (by omega) with q | q | ⟨j, hj, e⟩
    · exact absurd q q1
    · exact absurd q2 (Int32.not_lt.mpr q)
    · have m1 : (3 * w + 1) * j + (3 * w + 1) ≤ (3 * w + 1) * h := by
        have := Nat.mul_le_mul_left (3 * w + 1) (show j + 1 ≤ h by omega)
        rw [Nat.mul_add, Nat.mul_one] at this
        exact this
      have m2 : (3 * w + 1) * h ≤ 145 * 48 := Nat.mul_le_mul (by omega) (by omega)
      have e1 : (1 + 3 * nI w) * nI j = nI ((3 * w + 1) * j) := by
        rw [show (3 : Int32) = nI 3 from rfl, pk_mul, show (1 : Int32) = nI 1 from rfl, nI_add, pk_mul, Nat.add_comm 1]
      rw [e, e1]
      refine ⟨vp_in_nI (by omega) (by omega), ?_⟩
      rw [nI_clamp (by omega)]
      refine hp _ _ ⟨fun k hk e2 => ?_, fun q => absurd ⟨j, hj, e⟩ q⟩
      rw [e] at e2
      rw [h2 hb k hk, (nI_eq (by omega) (by omega)).mp e2]
/-- what count answers -/
def cntI (w h s1 s2 s3 s4 x r : Int32) : Prop := (x = 0 → r = s1) ∧ (x = 1 → r = s2) ∧ (x = 2 → r = s3) ∧ (x = 3 → r = s4) ∧ (x = 4 → r = w) ∧ (x = 5 → r = h) ∧ (¬ x = 0 → ¬ x = 1 → ¬ x = 2 → ¬ x = 3 → ¬ x = 4 → ¬ x = 5 → r = -1)
theorem cntI_eq {w h s1 s2 s3 s4 x r r' : Int32} (a : cntI w h s1 s2 s3 s4 x r) (b : cntI w h s1 s2 s3 s4 x r') : r = r' := by
  by_cases h0 : x = 0
  · rw [a.1 h0, b.1 h0]
  · by_cases h1 : x = 1
    · rw [a.2.1 h1, b.2.1 h1]
    · by_cases h2 : x = 2
      · rw [a.2.2.1 h2, b.2.2.1 h2]
      · by_cases h3 : x = 3
        · rw [a.2.2.2.1 h3, b.2.2.2.1 h3]
        · by_cases h4 : x = 4
          · rw [a.2.2.2.2.1 h4, b.2.2.2.2.1 h4]
          · by_cases h5 : x = 5
            · rw [a.2.2.2.2.2.1 h5, b.2.2.2.2.2.1 h5]
            · rw [a.2.2.2.2.2.2 h0 h1 h2 h3 h4 h5, b.2.2.2.2.2.2 h0 h1 h2 h3 h4 h5]
theorem cntI_0 {w h s1 s2 s3 s4 : Int32} : cntI w h s1 s2 s3 s4 0 s1 := ⟨fun _ => rfl, fun q => absurd q (by decide), fun q => absurd q (by decide), fun q => absurd q (by decide), fun q => absurd q (by decide), fun q => absurd q (by decide), fun q => absurd rfl q⟩
theorem cntI_1 {w h s1 s2 s3 s4 : Int32} : cntI w h s1 s2 s3 s4 1 s2 := ⟨fun q => absurd q (by decide), fun _ => rfl, fun q => absurd q (by decide), fun q => absurd q (by decide), fun q => absurd q (by decide), fun q => absurd q (by decide), fun _ q => absurd rfl q⟩
theorem cntI_2 {w h s1 s2 s3 s4 : Int32} : cntI w h s1 s2 s3 s4 2 s3 := ⟨fun q => absurd q (by decide), fun q => absurd q (by decide), fun _ => rfl, fun q => absurd q (by decide), fun q => absurd q (by decide), fun q => absurd q (by decide), fun _ _ q => absurd rfl q⟩
theorem cntI_3 {w h s1 s2 s3 s4 : Int32} : cntI w h s1 s2 s3 s4 3 s4 := ⟨fun q => absurd q (by decide), fun q => absurd q (by decide), fun q => absurd q (by decide), fun _ => rfl, fun q => absurd q (by decide), fun q => absurd q (by decide), fun _ _ _ q => absurd rfl q⟩
theorem cntI_4 {w h s1 s2 s3 s4 : Int32} : cntI w h s1 s2 s3 s4 4 w := ⟨fun q => absurd q (by decide), fun q => absurd q (by decide), fun q => absurd q (by decide), fun q => absurd q (by decide), fun _ => rfl, fun q => absurd q (by decide), fun _ _ _ _ q => absurd rfl q⟩
theorem cntI_5 {w h s1 s2 s3 s4 : Int32} : cntI w h s1 s2 s3 s4 5 h := ⟨fun q => absurd q (by decide), fun q => absurd q (by decide), fun q => absurd q (by decide), fun q => absurd q (by decide), fun q => absurd q (by decide), fun _ => rfl, fun _ _ _ _ _ q => absurd rfl q⟩
theorem cntI_n {w h s1 s2 s3 s4 x : Int32} (h0 : ¬ x = 0) (h1 : ¬ x = 1) (h2 : ¬ x = 2) (h3 : ¬ x = 3) (h4 : ¬ x = 4) (h5 : ¬ x = 5) : cntI w h s1 s2 s3 s4 x (-1) := ⟨fun q => absurd q h0, fun q => absurd q h1, fun q => absurd q h2, fun q => absurd q h3, fun q => absurd q h4, fun q => absurd q h5, fun _ _ _ _ _ _ => rfl⟩
theorem w_count {n : Nat → Nat} {w h s1 s2 s3 s4 x : Int32} {post : Int32 → Unit → Prop} (hp : ∀ r, cntI w h s1 s2 s3 s4 x r → post r ()) : wp_PP_count n w h s1 s2 s3 s4 x post := by
  unfold wp_PP_count
  exact ⟨fun e => hp _ (by rw [e]; exact cntI_0), fun e => hp _ (by rw [e]; exact cntI_1), fun e => hp _ (by rw [e]; exact cntI_2), fun e => hp _ (by rw [e]; exact cntI_3), fun e => hp _ (by rw [e]; exact cntI_4), fun e => hp _ (by rw [e]; exact cntI_5), fun h0 h1 h2 h3 h4 h5 => hp _ (cntI_n h0 h1 h2 h3 h4 h5)⟩
theorem m_count {n : Nat → Nat} {w h s1 s2 s3 s4 i0 x : Int32} {post : Int32 → Int32 → Prop} (hp : ∀ r t, cntI w h s1 s2 s3 s4 x r → post r t) : wp_Mod_count n i0 w h s1 s2 s3 s4 x post := by
  unfold wp_Mod_count
  exact ⟨fun e => hp _ _ (by rw [e]; exact cntI_0), fun e => hp _ _ (by rw [e]; exact cntI_1), fun e => hp _ _ (by rw [e]; exact cntI_2), fun e => hp _ _ (by rw [e]; exact cntI_3), fun e => hp _ _ (by rw [e]; exact cntI_4), fun e => hp _ _ (by rw [e]; exact cntI_5), fun h0 h1 h2 h3 h4 h5 => hp _ _ (cntI_n h0 h1 h2 h3 h4 h5)⟩
/-- what stays the same all the time -/
def Fix (n : Nat → Nat) (tb : Tbs) (w h : Nat) (ct : Nat → Int32) : Prop := Dim w h ∧ (tb 0).2 = (8, sigF) ∧ (tb 1).2 = (5, hdrF) ∧ (tb 3).2 = (2, datF) ∧ (tb 2).2.1 ≤ 2562 ∧ n 8 = 3 * (w + 1) * (h + 1) ∧ n 9 = (3 * w + 1) * h ∧ n 10 = h ∧ n 11 = 63 + (9 * n 9 + 17) / 8 ∧ n 12 = 256 ∧ n 13 = 1024 ∧ n 14 = n 9 ∧ n 15 = 2304 ∧ n 16 = 6960 ∧ n 17 = 9000 ∧ CT ct
set_option maxHeartbeats 4000000 in
theorem law_38 {n : Nat → Nat} {tb : Tbs} {w h : Nat} {ct : Nat → Int32} (F : Fix n tb w h ct) : ∀ (N i : Nat) (osz g1 g2 cs s1 s2 s3 f1 f2 f3 th mm msz mb t1 t2 t3 : Int32) (pb rb fl ob nw nx mc mr mf : Nat → Int32), i ≤ (tb 2).2.1 + 5 → (tb 2).2.1 + 6 ≤ i + N → Inv n w h osz s1 s2 s3 msz t1 t2 t3 pb fl ob mc mr mf →
    wp_Law_law_38 n tb (nI w) (nI h) (nI (3 * (w + 1))) (nI (3 * w)) (nI w) (nI h) ct True N osz g1 g2 cs s1 s2 s3 f1 f2 f3 th mm msz mb t1 t2 t3 pb rb fl ob nw nx mc mr mf (nI i) := by
  obtain ⟨hd, ht0, ht1, ht3, hL, h8, h9, h10, h11, h12, h13, h14, h15, h16, h17, hct⟩ := F
  obtain ⟨w1, w2, hh1, hh2⟩ := id hd
  have m9 : (3 * w + 1) * h ≤ 145 * 48 := Nat.mul_le_mul (by omega) (by omega)
  intro N
  induction N with
  | zero =>
    intro i osz g1 g2 cs s1 s2 s3 f1 f2 f3 th mm msz mb t1 t2 t3 pb rb fl ob nw nx mc mr mf hi hN hI
    omega
  | succ N ih =>
    intro i osz g1 g2 cs s1 s2 s3 f1 f2 f3 th mm msz mb t1 t2 t3 pb rb fl ob nw nx mc mr mf hi hN hI
    have hcond : (nI (tb 2).2.1 - 5 < nI i) ↔ (tb 2).2.1 < i + 5 := by
      rw [Int32.lt_iff_toInt_lt, show (5 : Int32) = nI 5 from rfl, pk_sub_toInt (by omega) (by decide), nI_toInt (by omega)]
      omega
    have e5 : nI i + 5 = nI (i + 5) := by rw [show (5 : Int32) = nI 5 from rfl, nI_add]
    unfold wp_Law_law_38
    refine ⟨fun _ => trivial, fun hc => ?_⟩
    have hi5 : i + 5 ≤ (tb 2).2.1 := Nat.le_of_not_lt (fun q => hc (hcond.mpr q))
    have p0 : vp_in (nI i) (tb 2).2.1 := vp_in_nI (by omega) (by omega)
    have p1 : vp_in (nI i + 1) (tb 2).2.1 := by rw [nI_1]; exact vp_in_nI (by omega) (by omega)
    have p2 : vp_in (nI i + 2) (tb 2).2.1 := by rw [show (2 : Int32) = nI 2 from rfl, nI_add]; exact vp_in_nI (by omega) (by omega)
    have p3 : vp_in (nI i + 3) (tb 2).2.1 := by rw [show (3 : Int32) = nI 3 from rfl, nI_add]; exact vp_in_nI (by omega) (by omega)
    have p4 : vp_in (nI i + 4) (tb 2).2.1 := by rw [show (4 : Int32) = nI 4 from rfl, nI_add]; exact vp_in_nI (by omega) (by omega)
    refine ⟨p0, ?_⟩
    intro z17 hz17
    obtain ⟨col, bs, cB, cP, cC, eo, em, l11, l9, ro, rm, e1, e2, e3, fb0, fb1⟩ := id hI
    have hn11 : n 11 < 2 ^ 28 := by omega
    refine ⟨fun _ => ?_, fun _ => ?_, fun _ => ?_, fun _ => ?_, fun _ => ?_, fun _ => ?_, fun _ => ?_, fun _ _ _ _ _ _ _ => ?_⟩
    · -- set
      refine ⟨p1, p2, p3, ?_⟩
      refine w_set hd h8 cP (fun pb' cP' r ry rn => ?_)
      refine ⟨p1, p2, p3, ?_⟩
      refine m_set hd h15 cC (fun mc' t cC' r' ry' rn' => ?_)
      have er : r = r' := by
        by_cases q : inB w h ((tb 2).2.2 (nI i + 1).toNatClampNeg) ((tb 2).2.2 (nI i + 2).toNatClampNeg)
        · rw [ry q, ry' q]
        · rw [rn q, rn' q]
      refine ⟨fun _ z hz => ?_, fun q => absurd er q⟩
      rw [hz, e5]
      exact ih (i + 5) _ _ _ _ _ _ _ _ _ _ _ _ _ _ _ _ _ _ _ _ _ _ _ _ _ _ (by omega) (by omega) ⟨_, bs, setC_B cB, cP', cC', eo, em, l11, l9, ro, rm, e1, e2, e3, fb0, fb1⟩
    · -- fill
      refine ⟨p1, p2, p3, p4, ?_⟩
      refine w_fillP hd h8 cP (fun r pb' col1 hf1 cP' => ?_)
      refine ⟨p1, p2, p3, p4, ?_⟩
      refine m_fillP hd h15 cC (fun r' t mc' col2 hf2 cC' => ?_)
      obtain ⟨er, ec⟩ := filI_eq w1 w2 hf1 hf2
      refine ⟨fun _ z hz => ?_, fun q => absurd er q⟩
      rw [hz, e5]
      rw [← ec] at cC'
      have cB' : ColB col1 := by
        obtain ⟨lo, a1, -, a3⟩ := range_lo ((tb 2).2.2 (nI i + 2).toNatClampNeg)
        obtain ⟨hi', b1, -, -, b4⟩ := range_hi w w1 w2 ((tb 2).2.2 (nI i + 3).toNatClampNeg)
        by_cases q : ∃ yy, yy < h ∧ (tb 2).2.2 (nI i + 1).toNatClampNeg = nI yy
        · obtain ⟨yy, y1, y2⟩ := q
          rw [(hf1.1 yy y1 y2 lo hi' a1 a3 b1 b4).2]
          exact fillC_B cB (Nat.mod_lt _ (by decide))
        · rw [(hf1.2 q).2]
          exact cB
      exact ih (i + 5) _ _ _ _ _ _ _ _ _ _ _ _ _ _ _ _ _ _ _ _ _ _ _ _ _ _ (by omega) (by omega) ⟨_, bs, cB', cP', cC', eo, em, l11, l9, ro, rm, e1, e2, e3, fb0, fb1⟩
    · -- pixel
      refine ⟨p1, p2, ?_⟩
      refine w_pixel hd h8 cB cP (fun r hr => ?_)
      refine ⟨p1, p2, ?_⟩
      refine m_pixel hd h15 cC (fun r' t hr' => ?_)
      refine ⟨fun _ z hz => ?_, fun q => absurd (pixI_eq hr hr') q⟩
      rw [hz, e5]
      exact ih (i + 5) _ _ _ _ _ _ _ _ _ _ _ _ _ _ _ _ _ _ _ _ _ _ _ _ _ _ (by omega) (by omega) hI
    · -- put
      refine w_put hd ht0 ht1 ht3 h8 h9 h10 h11 h12 h13 h14 hct (Qc_B col) cP (fun j0 j1 j2 j3 rb' fl' ob' nw' nx' hfl hro => ?_)
      refine m_put hd h15 h16 h17 cB cC (fun mr' mf' hA hrm => ?_)
      rw [h9] at hro ⊢
      refine ⟨fun _ z hz => ?_, fun q => absurd rfl q⟩
      rw [hz, e5]
      have hpl := packS_len (R := RR (Qc col) w) (m := (3 * w + 1) * h) (by omega) (RR_B (Qc col) w) []
      simp only [List.length_nil, Nat.zero_add] at hpl
      have hfl2 := fileS_len w h (RR (Qc col) w) ((3 * w + 1) * h)
      refine ih (i + 5) _ _ _ _ _ _ _ _ _ _ _ _ _ _ _ _ _ _ _ _ _ _ _ _ _ _ (by omega) (by omega) ⟨col, fileS w h (RR (Qc col) w) ((3 * w + 1) * h), cB, cP, cC, rfl, rfl, ?_, ?_, hro, hrm, rfl, rfl, rfl, ?_, ?_⟩
      · rw [h9] at h11; omega
      · omega
      · intro q
        rw [q] at hfl2
        simp only [List.length_nil] at hfl2
        omega
      · intro _ y hy
        have m1 : (3 * w + 1) * y + (3 * w + 1) ≤ (3 * w + 1) * h := by
          have := Nat.mul_le_mul_left (3 * w + 1) (show y + 1 ≤ h by omega)
          rw [Nat.mul_add, Nat.mul_one] at this
          exact this
        show fl' y = mr' ((3 * w + 1) * y)
        rw [hfl y hy, hA _ (by omega), Nat.mul_comm, RR_0]
    · -- byteAt
      refine ⟨p1, ?_⟩
      rw [eo, em]
      refine w_byteAt (by omega) l11 ro (fun r hr => ?_)
      refine ⟨p1, ?_⟩
      refine m_byteAt h17 l9 rm (fun r' t hr' => ?_)
      refine ⟨fun _ z hz => ?_, fun q => absurd (bytI_eq hr hr') q⟩
      rw [hz, e5]
      rw [eo, em] at hI
      exact ih (i + 5) _ _ _ _ _ _ _ _ _ _ _ _ _ _ _ _ _ _ _ _ _ _ _ _ _ _ (by omega) (by omega) hI
    · -- filter
      refine ⟨p1, ?_⟩
      rw [em]
      refine w_filter hh2 h10 (fun r hr => ?_)
      refine ⟨p1, ?_⟩
      refine m_filter hd h16 l9 fb0 fb1 (fun r' t hr' => ?_)
      refine ⟨fun _ z hz => ?_, fun q => absurd (fltI_eq hr hr') q⟩
      rw [hz, e5]
      rw [em] at hI
      exact ih (i + 5) _ _ _ _ _ _ _ _ _ _ _ _ _ _ _ _ _ _ _ _ _ _ _ _ _ _ (by omega) (by omega) hI
    · -- count
      refine ⟨p1, ?_⟩
      refine w_count (fun r hr => ?_)
      refine ⟨p1, ?_⟩
      refine m_count (fun r' t hr' => ?_)
      rw [eo, ← em, e1, e2, e3] at hr
      refine ⟨fun _ z hz => ?_, fun q => absurd (cntI_eq hr hr') q⟩
      rw [hz, e5]
      exact ih (i + 5) _ _ _ _ _ _ _ _ _ _ _ _ _ _ _ _ _ _ _ _ _ _ _ _ _ _ (by omega) (by omega) hI
    · intro z hz
      rw [hz, e5]
      exact ih (i + 5) _ _ _ _ _ _ _ _ _ _ _ _ _ _ _ _ _ _ _ _ _ _ _ _ _ _ (by omega) (by omega) hI
/-- the script's cell, 0 beyond its end -/
theorem w_cell {n : Nat → Nat} {tb : Tbs} {k : Nat} {post : Int32 → Unit → Prop} (hL : (tb 2).2.1 ≤ 2562) (hk : k < 1000) (hp : post (if k < (tb 2).2.1 then (tb 2).2.2 k else 0) ()) : wp_Law_cell n tb 2 (nI k) post := by
  unfold wp_Law_cell
  by_cases q : k < (tb 2).2.1
  · rw [if_pos q] at hp
    refine ⟨fun z => absurd z (nI_ge q (by omega)), fun _ => ⟨vp_in_nI q (by omega), ?_⟩⟩
    rw [nI_clamp (by omega)]
    exact hp
  · rw [if_neg q] at hp
    exact ⟨fun _ => hp, fun z => absurd (nI_le (by omega) (by omega)) z⟩
set_option maxHeartbeats 4000000 in
theorem law_pure (n : Nat → Nat) (tb : Tbs) (h0 : (tb 0).2 = (8, sigF)) (h1 : (tb 1).2 = (5, hdrF)) (h3 : (tb 3).2 = (2, datF)) (h2 : (tb 2).2.1 ≤ 2562) : wp_Law n tb True := by
  unfold wp_Law
  intro q1
  refine w_cell (k := 0) h2 (by decide) ?_
  refine w_cell (k := 1) h2 (by decide) ?_
  obtain ⟨w, w1, w2, ew, a1, a2, a3⟩ := side_ex (if 0 < (tb 2).2.1 then (tb 2).2.2 0 else 0)
  obtain ⟨h, hh1, hh2, eh, b1, b2, b3⟩ := side_ex (if 1 < (tb 2).2.1 then (tb 2).2.2 1 else 0)
  have hd : Dim w h := ⟨w1, w2, hh1, hh2⟩
  refine w_ppInit hd ew eh (fun A M fl ct c8 c9 c10 c11 c12 c13 c14 hfl hct => ?_)
  intro q8
  refine w_cell (k := 0) h2 (by decide) ?_
  refine w_cell (k := 1) h2 (by decide) ?_
  refine m_init a1 a2 a3 b1 b2 b3 (fun A2 M2 c15 c16 c17 => ?_)
  refine ⟨(tb 2).2.1 + 6, ?_⟩
  refine law_38 (n := fun k => if k = 8 then M 8 else if k = 9 then M 9 else if k = 10 then M 10 else if k = 11 then M 11 else if k = 12 then M 12 else if k = 13 then M 13 else if k = 14 then M 14 else if k = 15 then M2 15 else if k = 16 then M2 16 else if k = 17 then M2 17 else 0) (w := w) (h := h) ⟨hd, h0, h1, h3, h2, c8, c9, c10, ?_, c12, c13, ?_, c15, c16, c17, hct⟩ ((tb 2).2.1 + 6) 2 _ _ _ _ _ _ _ _ _ _ _ _ _ _ _ _ _ _ _ _ _ _ _ _ _ _ (by omega) (by omega) ⟨fun _ _ => 0, [], ?_, ?_, ?_, rfl, rfl, Nat.zero_le _, Nat.zero_le _, Rep.nil, Rep.nil, rfl, rfl, rfl, fun _ => hfl, fun q => absurd rfl q⟩
  · show M 11 = 63 + (9 * M 9 + 17) / 8
    rw [c11, c9]
  · show M 14 = M 9
    rw [c14, c9]
  · intro x y
    exact Nat.le_of_ble_eq_true rfl
  · intro r j hr hj
    show (0 : Int32) = nI (Qc (fun _ _ => 0) r j)
    have : Qc (fun _ _ => 0) r j = 0 := by
      unfold Qc
      split
      · rfl
      · rw [Nat.zero_div]
    rw [this]
    rfl
  · intro x y hx hy
    rfl
