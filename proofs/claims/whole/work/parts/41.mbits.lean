/-! PURE: the reference's bits, and signs on both sides -/
def fin (st : List Nat × List Bool) : List Nat := if st.2 = [] then st.1 else st.1 ++ [bitsVal st.2]
def PM (post : Int32 × Int32 × (Nat → Int32) → Prop) (st : List Nat × List Bool) : Prop := ∀ mf : Nat → Int32, Rep (fin st) mf → post (nI (fin st).length, nI st.2.length, mf)
theorem Rep.setLast {bs : List Nat} {f : Nat → Int32} {u v : Nat} (h : Rep (bs ++ [u]) f) : Rep (bs ++ [v]) (upd f bs.length (nI v)) := by
  intro j hj
  rw [List.length_append, List.length_singleton] at hj
  by_cases e : j = bs.length
  · subst e
    rw [pk_us]
    simp
  · have h1 := h j (by rw [List.length_append, List.length_singleton]; omega)
    rw [pk_un e, h1]
    simp only [List.getD_eq_getElem?_getD]
    rw [List.getElem?_append_left (by omega), List.getElem?_append_left (by omega)]
theorem Rep.last {bs : List Nat} {f : Nat → Int32} {u : Nat} (h : Rep (bs ++ [u]) f) : f bs.length = nI u := by
  rw [h bs.length (by simp)]
  simp
theorem m_one {n : Nat → Nat} {bs : List Nat} {mf : Nat → Int32} {x : Int32} {v : Nat} {post : Int32 × (Nat → Int32) → Prop} (hn : n 17 < 2 ^ 31) (hl : bs.length < n 17) (hr : Rep bs mf) (hx : x &&& 255 = nI v)
    (hp : ∀ mf', Rep (bs ++ [v]) mf' → post (nI (bs.length + 1), mf')) : wp_Mod_one n (nI bs.length) mf x post := by
  unfold wp_Mod_one
  intro z hz
  refine ⟨vp_in_nI hl hn, ?_⟩
  intro f hf z4 hz4
  rw [hz4, nI_1, hf, nI_clamp (by omega), hz, hx]
  exact hp _ hr.push
theorem m_next_12 {n : Nat → Nat} {bs : List Nat} {q : List Bool} {mf : Nat → Int32} {b : Bool} {post : Int32 × Int32 × (Nat → Int32) → Prop} (hn : n 17 < 2 ^ 31) (hq : q.length < 8) (hl : bs.length < n 17) (hr : Rep (bs ++ [bitsVal q]) mf)
    (hp : ∀ mf', Rep (bs ++ [bitsVal (q ++ [b])]) mf' → post (nI (bs.length + 1), nI ((q.length + 1) % 8), mf')) : wp_Mod_next_12 n (nI b.toNat) post (nI (bs.length + 1)) (nI q.length) mf := by
  unfold wp_Mod_next_12
  rw [nI_pred]
  refine ⟨vp_in_nI hl hn, ?_⟩
  intro z3 hz3
  refine ⟨vp_in_nI hl hn, ?_⟩
  intro f hf z6 hz6
  rw [nI_clamp (by omega)] at hf hz3
  rw [hr.last, ni_or8 _ hq _ (bitsVal_lt q) b, ← bitsVal_app] at hz3
  rw [nI_1, show (8 : Int32) = nI 8 from rfl, pk_rem (by omega) (by decide) (by decide)] at hz6
  rw [hz6, hf, hz3]
  exact hp _ hr.setLast
theorem m_next {n : Nat → Nat} {st : List Nat × List Bool} {mf : Nat → Int32} {b : Bool} {post : Int32 × Int32 × (Nat → Int32) → Prop} (hn : n 17 < 2 ^ 31) (ho : okS st) (hl : blen st + 1 ≤ 8 * n 17) (hr : Rep (fin st) mf)
    (hp : PM post (pB st b)) : wp_Mod_next n (nI (fin st).length) (nI st.2.length) mf (nI b.toNat) post := by
  obtain ⟨bs, q⟩ := st
  unfold okS at ho
  unfold blen at hl
  simp only at ho hl ⊢
  unfold wp_Mod_next
  by_cases hq : q = []
  · subst hq
    unfold fin at hr ⊢
    simp only [if_true] at hr ⊢
    refine ⟨fun h => absurd rfl h, fun _ => ?_⟩
    simp only [List.length_nil] at hl
    refine m_one (v := 0) hn (by omega) hr rfl (fun mf' hr' => ?_)
    refine m_next_12 (q := []) hn (by decide) (by omega) hr' (fun mf2 hr2 => ?_)
    have := hp mf2
    unfold pB fin at this
    simp at this
    exact this hr2
  · have hq1 : 0 < q.length := List.length_pos_iff.mpr hq
    unfold fin at hr ⊢
    simp only [hq, if_false] at hr ⊢
    refine ⟨fun _ => ?_, fun h => absurd h (nI_ne0 hq1 (by omega))⟩
    rw [List.length_append, List.length_singleton]
    refine m_next_12 hn (by omega) (by omega) hr (fun mf2 hr2 => ?_)
    have h2 := hp mf2
    unfold pB fin at h2
    by_cases h7 : q.length = 7
    · simp [h7] at h2
      rw [h7]
      exact h2 hr2
    · simp [h7] at h2
      rw [Nat.mod_eq_of_lt (by omega)]
      exact h2 hr2
theorem m_hi_4 {n : Nat → Nat} {v : Nat} {x2 : Int32} {post : Int32 × Int32 × (Nat → Int32) → Prop} (hn : n 17 < 2 ^ 31) (hv : v < 2 ^ 31) : ∀ (k : Nat) (st : List Nat × List Bool) (mf : Nat → Int32), k ≤ 31 → okS st → blen st + k ≤ 8 * n 17 → Rep (fin st) mf → PM post (pBs st (hiB v k)) → wp_Mod_highest_4 n (nI v) x2 post (k + 1) (nI (fin st).length) (nI st.2.length) mf (nI k - 1) := by
  intro k
  induction k with
  | zero =>
    intro st ob hk ho hl hr hp
    unfold wp_Mod_highest_4
    exact ⟨fun _ => hp ob hr, fun h => absurd (by decide) h⟩
  | succ k ih =>
    intro st ob hk ho hl hr hp
    unfold wp_Mod_highest_4
    rw [nI_pred]
    refine ⟨fun h => absurd h (nI_pos (by omega)), fun _ => ?_⟩
    rw [ni_bit hv (by omega)]
    refine m_next hn ho (by omega) hr (fun ob' hr' => ?_)
    intro z hz
    have e : z = nI k - 1 := by rw [hz, Int32.sub_eq_add_neg]
    rw [e]
    exact ih (pB st (v.testBit k)) ob' (by omega) (pB_ok ho) (by rw [pB_len ho]; omega) hr' hp
theorem m_hi {n : Nat → Nat} {v k : Nat} {st : List Nat × List Bool} {mf : Nat → Int32} {post : Int32 × Int32 × (Nat → Int32) → Prop} (hn : n 17 < 2 ^ 31) (hv : v < 2 ^ 31) (hk : k ≤ 31) (ho : okS st) (hl : blen st + k ≤ 8 * n 17) (hr : Rep (fin st) mf) (hp : PM post (pBs st (hiB v k))) :
    wp_Mod_highest n (nI (fin st).length) (nI st.2.length) mf (nI v) (nI k) post := by
  unfold wp_Mod_highest
  intro z hz
  rw [hz]
  exact ⟨k + 1, m_hi_4 hn hv k st mf hk ho hl hr hp⟩
theorem m_lo_2 {n : Nat → Nat} {v m : Nat} {post : Int32 × Int32 × (Nat → Int32) → Prop} (hn : n 17 < 2 ^ 31) (hv : v < 2 ^ 31) (hm : m ≤ 31) : ∀ (k i : Nat) (st : List Nat × List Bool) (mf : Nat → Int32), i + k = m → okS st → blen st + k ≤ 8 * n 17 → Rep (fin st) mf → PM post (pBs st (loB v i k)) → wp_Mod_lowest_2 n (nI v) (nI m) post (k + 1) (nI (fin st).length) (nI st.2.length) mf (nI i) := by
  intro k
  induction k with
  | zero =>
    intro i st ob hi ho hl hr hp
    unfold wp_Mod_lowest_2
    exact ⟨fun _ => hp ob hr, fun h => absurd (nI_le (by omega) (by omega)) h⟩
  | succ k ih =>
    intro i st ob hi ho hl hr hp
    unfold wp_Mod_lowest_2
    refine ⟨fun h => absurd h (nI_ge (by omega) (by omega)), fun _ => ?_⟩
    rw [ni_bit hv (by omega)]
    refine m_next hn ho (by omega) hr (fun ob' hr' => ?_)
    intro z hz
    rw [hz, nI_1]
    exact ih (i + 1) (pB st (v.testBit i)) ob' (by omega) (pB_ok ho) (by rw [pB_len ho]; omega) hr' hp
theorem m_lo {n : Nat → Nat} {v k : Nat} {st : List Nat × List Bool} {mf : Nat → Int32} {post : Int32 × Int32 × (Nat → Int32) → Prop} (hn : n 17 < 2 ^ 31) (hv : v < 2 ^ 31) (hk : k ≤ 31) (ho : okS st) (hl : blen st + k ≤ 8 * n 17) (hr : Rep (fin st) mf) (hp : PM post (pBs st (loB v 0 k))) :
    wp_Mod_lowest n (nI (fin st).length) (nI st.2.length) mf (nI v) (nI k) post := by
  unfold wp_Mod_lowest
  exact ⟨k + 1, m_lo_2 hn hv hk k 0 st mf (by omega) ho hl hr hp⟩
/-- the bits of a sign -/
def signB (s : Nat) : List Bool := if s < 144 then hiB (48 + s) 8 else if s < 256 then hiB (400 + s - 144) 9 else if s < 280 then hiB (s - 256) 7 else hiB (192 + s - 280) 8
theorem signB_len (s : Nat) : (signB s).length ≤ 9 := by
  unfold signB
  split
  · rw [hiB_len]; decide
  · split
    · rw [hiB_len]; decide
    · split <;> rw [hiB_len] <;> decide
theorem m_sign {n : Nat → Nat} {s : Nat} {st : List Nat × List Bool} {mf : Nat → Int32} {post : Int32 × Int32 × (Nat → Int32) → Prop} (hn : n 17 < 2 ^ 31) (hs : s < 286) (ho : okS st) (hl : blen st + (signB s).length ≤ 8 * n 17) (hr : Rep (fin st) mf) (hp : PM post (pBs st (signB s))) :
    wp_Mod_sign n (nI (fin st).length) (nI st.2.length) mf (nI s) post := by
  unfold wp_Mod_sign
  unfold signB at hl hp
  refine ⟨fun h1 => ?_, fun h1 => ?_⟩
  · have g1 : ¬ s < 144 := fun q => absurd h1 (nI_ge q (by decide))
    rw [if_neg g1] at hl hp
    refine ⟨fun h2 => ?_, fun h2 => ?_⟩
    · have g2 : ¬ s < 256 := fun q => absurd h2 (nI_ge q (by decide))
      rw [if_neg g2] at hl hp
      refine ⟨fun h3 => ?_, fun h3 => ?_⟩
      · have g3 : ¬ s < 280 := fun q => absurd h3 (nI_ge q (by decide))
        rw [if_neg g3, hiB_len] at hl
        rw [if_neg g3] at hp
        rw [show (192 : Int32) = nI 192 from rfl, nI_add, show (280 : Int32) = nI 280 from rfl, pk_sub (by omega)]
        exact m_hi (k := 8) hn (by omega) (by decide) ho hl hr hp
      · have g3 : s < 280 := Nat.lt_of_not_le (fun q => h3 (nI_le q (by omega)))
        rw [if_pos g3, hiB_len] at hl
        rw [if_pos g3] at hp
        rw [show (256 : Int32) = nI 256 from rfl, pk_sub (by omega)]
        exact m_hi (k := 7) hn (by omega) (by decide) ho hl hr hp
    · have g2 : s < 256 := Nat.lt_of_not_le (fun q => h2 (nI_le q (by omega)))
      rw [if_pos g2, hiB_len] at hl
      rw [if_pos g2] at hp
      rw [show (400 : Int32) = nI 400 from rfl, nI_add, show (144 : Int32) = nI 144 from rfl, pk_sub (by omega)]
      exact m_hi (k := 9) hn (by omega) (by decide) ho hl hr hp
  · have g1 : s < 144 := Nat.lt_of_not_le (fun q => h1 (nI_le q (by omega)))
    rw [if_pos g1, hiB_len] at hl
    rw [if_pos g1] at hp
    rw [show (48 : Int32) = nI 48 from rfl, nI_add]
    exact m_hi (k := 8) hn (by omega) (by decide) ho hl hr hp
