/-! PURE: runs that point back -/
/-- how many bytes are the same from a on and from b on, at most k -/
def runL (R : Nat → Nat) (a b : Nat) : Nat → Nat
  | 0 => 0
  | k + 1 => if R a = R b then runL R (a + 1) (b + 1) k + 1 else 0
theorem runL_le (R : Nat → Nat) : ∀ k a b, runL R a b k ≤ k
  | 0, _, _ => Nat.le_refl 0
  | k + 1, a, b => by
    unfold runL
    split
    · have := runL_le R k (a + 1) (b + 1); omega
    · omega
theorem runL_same (R : Nat → Nat) : ∀ k a b j, j < runL R a b k → R (a + j) = R (b + j)
  | 0, a, b, j, h => absurd h (Nat.not_lt_zero j)
  | k + 1, a, b, j, h => by
    unfold runL at h
    split at h
    · rename_i he
      cases j with
      | zero => exact he
      | succ j =>
        have := runL_same R k (a + 1) (b + 1) j (by omega)
        rw [show a + (j + 1) = a + 1 + j by omega, show b + (j + 1) = b + 1 + j by omega]
        exact this
    · exact absurd h (Nat.not_lt_zero j)
/-- a run that goes on to j: it is j plus the run from there -/
theorem runL_split (R : Nat → Nat) : ∀ j k a b, j ≤ k → (∀ i, i < j → R (a + i) = R (b + i)) → runL R a b k = j + runL R (a + j) (b + j) (k - j)
  | 0, k, a, b, _, _ => by simp
  | j + 1, k, a, b, hk, h => by
    cases k with
    | zero => omega
    | succ k =>
      have h0 := h 0 (by omega)
      rw [Nat.add_zero, Nat.add_zero] at h0
      rw [show runL R a b (k + 1) = runL R (a + 1) (b + 1) k + 1 from if_pos h0, runL_split R j k (a + 1) (b + 1) (by omega) (fun i hi => by
        have := h (i + 1) (by omega)
        rw [show a + 1 + i = a + (i + 1) by omega, show b + 1 + i = b + (i + 1) by omega]
        exact this)]
      rw [show a + 1 + j = a + (j + 1) by omega, show b + 1 + j = b + (j + 1) by omega, show k + 1 - (j + 1) = k - j by omega]
      omega
theorem runL_stop {R : Nat → Nat} {k a b j : Nat} (hne : R (a + j) ≠ R (b + j)) : runL R a b k ≤ j := by
  rcases Nat.lt_or_ge j (runL R a b k) with h | h
  · exact absurd (runL_same R k a b j h) hne
  · exact h
/-- the best of the distances 1 .. D at a place: its length (2 where there is none), its distance (0 where there is none) -/
def bst (R : Nat → Nat) (at_ most : Nat) : Nat → Nat × Nat
  | 0 => (2, 0)
  | D + 1 => if (bst R at_ most D).1 < runL R (at_ - (D + 1)) at_ most then (runL R (at_ - (D + 1)) at_ most, D + 1) else bst R at_ most D
theorem bst_ge (R : Nat → Nat) (at_ most : Nat) : ∀ D, 2 ≤ (bst R at_ most D).1
  | 0 => Nat.le_refl 2
  | D + 1 => by
    have := bst_ge R at_ most D
    unfold bst
    split
    · simp only; omega
    · exact this
theorem bst_d (R : Nat → Nat) (at_ most : Nat) : ∀ D, (bst R at_ most D).2 ≤ D ∧ ((bst R at_ most D).2 = 0 ↔ (bst R at_ most D).1 = 2) ∧ ((bst R at_ most D).1 ≤ most ∨ (bst R at_ most D).2 = 0)
  | 0 => ⟨Nat.le_refl 0, Iff.intro (fun _ => rfl) (fun _ => rfl), Or.inr rfl⟩
  | D + 1 => by
    obtain ⟨h1, h2, h3⟩ := bst_d R at_ most D
    have h4 := bst_ge R at_ most D
    unfold bst
    split
    · refine ⟨Nat.le_refl _, ⟨fun h => by simp at h, fun h => by simp only at h; omega⟩, Or.inl ?_⟩
      exact runL_le R most _ _
    · exact ⟨by omega, h2, h3⟩
/-- distances that don't do better change nothing -/
theorem bst_skip {R : Nat → Nat} {at_ most : Nat} : ∀ (D E : Nat), D ≤ E → (∀ d, D < d → d ≤ E → runL R (at_ - d) at_ most ≤ (bst R at_ most D).1) → bst R at_ most E = bst R at_ most D := by
  intro D E hDE h
  induction E with
  | zero => rw [show D = 0 by omega]
  | succ E ih =>
    by_cases e : D = E + 1
    · rw [e]
    · have h1 := ih (by omega) (fun d a b => h d a (by omega))
      have h2 := h (E + 1) (by omega) (Nat.le_refl _)
      show (if (bst R at_ most E).1 < runL R (at_ - (E + 1)) at_ most then _ else _) = _
      rw [h1, if_neg (by omega)]
theorem bst_full {R : Nat → Nat} {at_ most : Nat} {D E : Nat} (hDE : D ≤ E) (h : most ≤ (bst R at_ most D).1) : bst R at_ most E = bst R at_ most D :=
  bst_skip D E hDE (fun d _ _ => Nat.le_trans (runL_le R most _ _) h)
/-! the reference: run -/
def mostOf (m at_ : Nat) : Nat := if m - at_ < 258 then m - at_ else 258
def Agr (m : Nat) (R : Nat → Nat) (f : Nat → Int32) : Prop := ∀ j, j < m → f j = nI (R j)
def Byt (R : Nat → Nat) : Prop := ∀ j, R j < 256
theorem m_run_3 {n : Nat → Nat} {R : Nat → Nat} {mr : Nat → Int32} {m at_ d most : Nat} {post : Int32 → Unit → Prop} (hn : m ≤ n 16) (hn2 : n 16 < 2 ^ 30) (hR : Byt R) (hA : Agr m R mr) (hd1 : 1 ≤ d) (hd : d ≤ at_) (hm : at_ + most ≤ m) (hp : post (nI (runL R (at_ - d) at_ most)) ()) :
    ∀ (k i : Nat), i + k = most → (∀ t, t < i → R (at_ - d + t) = R (at_ + t)) → wp_Mod_run_3 n mr (nI at_) (nI d) (nI most) post (k + 1) (nI i) := by
  intro k
  induction k with
  | zero =>
    intro i hi hs
    unfold wp_Mod_run_3
    refine ⟨fun _ => ?_, fun h => absurd (nI_le (by omega) (by omega)) h⟩
    have := runL_split R i most (at_ - d) at_ (by omega) hs
    rw [show most - i = 0 by omega, show runL R (at_ - d + i) (at_ + i) 0 = 0 from rfl] at this
    rw [this] at hp
    exact hp
  | succ k ih =>
    intro i hi hs
    unfold wp_Mod_run_3
    refine ⟨fun h => absurd h (nI_ge (by omega) (by omega)), fun _ => ?_⟩
    rw [nI_add, pk_sub (by omega)]
    refine ⟨vp_in_nI (by omega) (by omega), vp_in_nI (by omega) (by omega), ?_⟩
    rw [nI_clamp (by omega), nI_clamp (by omega), hA _ (by omega), hA _ (by omega)]
    have hb1 := hR (at_ + i)
    have hb2 := hR (at_ + i - d)
    refine ⟨fun hne => ?_, fun he => ?_⟩
    · have hne2 : R (at_ - d + i) ≠ R (at_ + i) := fun q => hne (by rw [show at_ + i - d = at_ - d + i by omega, q])
      have := runL_split R i most (at_ - d) at_ (by omega) hs
      have h3 : runL R (at_ - d + i) (at_ + i) (most - i) = 0 := by
        rw [show most - i = k + 1 by omega]
        unfold runL
        rw [if_neg hne2]
      rw [h3] at this
      rw [this] at hp
      exact hp
    · intro z hz
      rw [hz, nI_1]
      refine ih (i + 1) (by omega) (fun t ht => ?_)
      by_cases e : t = i
      · subst e
        have := (nI_eq (by omega) (by omega)).mp he
        rw [show at_ - d + t = at_ + t - d by omega]
        exact this.symm
      · exact hs t (by omega)
theorem m_run {n : Nat → Nat} {R : Nat → Nat} {mr : Nat → Int32} {m at_ d most : Nat} {post : Int32 → Unit → Prop} (hn : m ≤ n 16) (hn2 : n 16 < 2 ^ 30) (hR : Byt R) (hA : Agr m R mr) (hd1 : 1 ≤ d) (hd : d ≤ at_) (hm : at_ + most ≤ m) (hp : post (nI (runL R (at_ - d) at_ most)) ()) :
    wp_Mod_run n mr (nI at_) (nI d) (nI most) post := by
  unfold wp_Mod_run
  exact ⟨_, m_run_3 hn hn2 hR hA hd1 hd hm hp most 0 (by omega) (fun t h => absurd h (Nat.not_lt_zero t))⟩
/-! the reference: the search and the loop over all bytes -/
theorem m_pack_58 {n : Nat → Nat} {R : Nat → Nat} {mr : Nat → Int32} {m at_ : Nat} {post : Int32 × Int32 × Int32 × Int32 × Int32 × (Nat → Int32) → Prop} {k17 : Int32 → Int32 → Int32 → Int32 → Int32 → (Nat → Int32) → Int32 → Prop} {a1 a2 a3 a4 a5 mm : Int32} {mf : Nat → Int32} (hn : m ≤ n 16) (hm2 : m ≤ 6960) (hn2 : n 16 < 2 ^ 30) (hR : Byt R) (hA : Agr m R mr) (hat : at_ < m)
    (hf : wp_Mod_pack_142 n mm mr post k17 a1 a2 a3 a4 a5 mf (nI at_) (nI (bst R at_ (mostOf m at_) at_).1) (nI (bst R at_ (mostOf m at_) at_).2)) :
    ∀ (j D : Nat), D + j = at_ → wp_Mod_pack_58 n mm mr post k17 (j + 1) a1 a2 a3 a4 a5 mf (nI at_) (nI (mostOf m at_)) (nI (bst R at_ (mostOf m at_) D).1) (nI (bst R at_ (mostOf m at_) D).2) (nI (D + 1)) := by
  have hmo : mostOf m at_ ≤ m - at_ ∧ mostOf m at_ ≤ 258 := by unfold mostOf; split <;> omega
  have sat : ∀ D, D ≤ at_ → mostOf m at_ ≤ (bst R at_ (mostOf m at_) D).1 → wp_Mod_pack_142 n mm mr post k17 a1 a2 a3 a4 a5 mf (nI at_) (nI (bst R at_ (mostOf m at_) D).1) (nI (bst R at_ (mostOf m at_) D).2) := by
    intro D hD h
    rw [bst_full hD h] at hf
    exact hf
  intro j
  induction j with
  | zero =>
    intro D hD
    have e : D = at_ := by omega
    subst e
    unfold wp_Mod_pack_58
    exact ⟨fun _ => hf, fun h => absurd (nI_lt (by omega) (by omega)) h⟩
  | succ j ih =>
    intro D hD
    have hb := bst_d R at_ (mostOf m at_) D
    have hg := bst_ge R at_ (mostOf m at_) D
    unfold wp_Mod_pack_58
    refine ⟨fun h => absurd h (nI_nlt (by omega) (by omega)), fun _ => ⟨fun h => absurd h (nI_nlt (a := 32768) (by omega) (by decide)), fun _ => ⟨fun h => ?_, fun h => ?_⟩⟩⟩
    · exact sat D (by omega) ((nI_leI (by omega) (by omega)).mp h)
    · have hlt : (bst R at_ (mostOf m at_) D).1 < mostOf m at_ := by
        rcases Nat.lt_or_ge (bst R at_ (mostOf m at_) D).1 (mostOf m at_) with q | q
        · exact q
        · exact absurd (nI_le q (by omega)) h
      have hnx := ih (D + 1) (by omega)
      have e1 : bst R at_ (mostOf m at_) (D + 1) = if (bst R at_ (mostOf m at_) D).1 < runL R (at_ - (D + 1)) at_ (mostOf m at_) then (runL R (at_ - (D + 1)) at_ (mostOf m at_), D + 1) else bst R at_ (mostOf m at_) D := rfl
      rw [nI_add, pk_sub (by omega)]
      refine ⟨vp_in_nI (by omega) (by omega), vp_in_nI (by omega) (by omega), ?_⟩
      rw [nI_clamp (by omega), nI_clamp (by omega), hA _ (by omega), hA _ (by omega)]
      have hb1 := hR (at_ + (bst R at_ (mostOf m at_) D).1)
      have hb2 := hR (at_ + (bst R at_ (mostOf m at_) D).1 - (D + 1))
      refine ⟨fun hne => ?_, fun he => ?_⟩
      · intro z hz
        rw [hz, nI_1]
        have hst : runL R (at_ - (D + 1)) at_ (mostOf m at_) ≤ (bst R at_ (mostOf m at_) D).1 := runL_stop (fun q => hne (by rw [show at_ + (bst R at_ (mostOf m at_) D).1 - (D + 1) = at_ - (D + 1) + (bst R at_ (mostOf m at_) D).1 by omega, q]))
        rw [if_neg (by omega)] at e1
        rw [e1] at hnx
        exact hnx
      · have hrl := runL_le R (mostOf m at_) (at_ - (D + 1)) at_
        refine m_run hn hn2 hR hA (by omega) (by omega) (by omega) ⟨fun h1 => ?_, fun h1 => ?_⟩
        · have h2 := (nI_leI (by omega) (by omega)).mp h1
          unfold wp_Mod_pack_121
          refine ⟨fun _ => ?_, fun h3 => absurd h1 h3⟩
          intro z hz
          rw [hz, nI_1]
          rw [if_neg (by omega)] at e1
          rw [e1] at hnx
          exact hnx
        · have h2 : ¬ runL R (at_ - (D + 1)) at_ (mostOf m at_) ≤ (bst R at_ (mostOf m at_) D).1 := fun q => h1 (nI_le q (by omega))
          unfold wp_Mod_pack_121
          refine ⟨fun h3 => absurd h3 h1, fun _ => ?_⟩
          intro z hz
          rw [hz, nI_1]
          rw [if_pos (by omega)] at e1
          rw [e1] at hnx
          exact hnx
/-- the signs of all bytes from a place on -/
def enc (R : Nat → Nat) (m : Nat) : Nat → Nat → List Bool
  | 0, _ => []
  | k + 1, at_ => if at_ < m then (if (bst R at_ (mostOf m at_) at_).2 = 0 then signB (R at_) ++ enc R m k (at_ + 1) else (lenB (bst R at_ (mostOf m at_) at_).1 ++ dstB (bst R at_ (mostOf m at_) at_).2) ++ enc R m k (at_ + (bst R at_ (mostOf m at_) at_).1)) else []
/-- how many are bytes, how many runs, the longest -/
def cnt (R : Nat → Nat) (m : Nat) : Nat → Nat → Nat × Nat × Nat → Nat × Nat × Nat
  | 0, _, c => c
  | k + 1, at_, c => if at_ < m then (if (bst R at_ (mostOf m at_) at_).2 = 0 then cnt R m k (at_ + 1) (c.1 + 1, c.2.1, c.2.2) else cnt R m k (at_ + (bst R at_ (mostOf m at_) at_).1) (c.1, c.2.1 + 1, if c.2.2 < (bst R at_ (mostOf m at_) at_).1 then (bst R at_ (mostOf m at_) at_).1 else c.2.2)) else c
theorem m_pack_17 {n : Nat → Nat} {R : Nat → Nat} {mr : Nat → Int32} {m : Nat} {post : Int32 × Int32 × Int32 × Int32 × Int32 × (Nat → Int32) → Prop} (hn : m ≤ n 16) (hm2 : m ≤ 6960) (hn2 : n 16 < 2 ^ 30) (hn3 : n 17 < 2 ^ 28) (hR : Byt R) (hA : Agr m R mr) :
    ∀ (k at_ : Nat) (st : List Nat × List Bool) (c : Nat × Nat × Nat) (mf : Nat → Int32), m ≤ at_ + k → at_ ≤ m → okS st → blen st + (enc R m k at_).length + 7 ≤ 8 * n 17 → c.2.2 ≤ 258 → Rep (fin st) mf →
      (∀ mf', Rep (fin (pBs st (enc R m k at_ ++ signB 256))) mf' → post (nI (fin (pBs st (enc R m k at_ ++ signB 256))).length, 0, nI (cnt R m k at_ c).1, nI (cnt R m k at_ c).2.1, nI (cnt R m k at_ c).2.2, mf')) →
      wp_Mod_pack_17 n (nI m) mr post (k + 1) (nI (fin st).length) (nI st.2.length) (nI c.1) (nI c.2.1) (nI c.2.2) mf (nI at_) := by
  have done : ∀ (st : List Nat × List Bool) (c : Nat × Nat × Nat) (mf : Nat → Int32), okS st → blen st + 7 ≤ 8 * n 17 → Rep (fin st) mf → (∀ mf', Rep (fin (pBs st (signB 256))) mf' → post (nI (fin (pBs st (signB 256))).length, 0, nI c.1, nI c.2.1, nI c.2.2, mf')) → wp_Mod_sign n (nI (fin st).length) (nI st.2.length) mf 256 (fun u8 => post (u8.1, 0, nI c.1, nI c.2.1, nI c.2.2, u8.2.2)) := by
    intro st c mf ho hl hr hp
    exact m_sign (s := 256) (by omega) (by decide) ho hl hr (fun mf' hr' => hp mf' hr')
  intro k
  induction k with
  | zero =>
    intro at_ st c mf hk hat ho hl hc hr hp
    unfold wp_Mod_pack_17
    exact ⟨fun _ => done st c mf ho (by simp only [enc, List.length_nil] at hl; omega) hr hp, fun h => absurd (nI_le (by omega) (by omega)) h⟩
  | succ k ih =>
    intro at_ st c mf hk hat ho hl hc hr hp
    unfold wp_Mod_pack_17
    by_cases hlt : at_ < m
    · refine ⟨fun h => absurd h (nI_ge hlt (by omega)), fun _ => ?_⟩
      have hmo : mostOf m at_ ≤ m - at_ ∧ mostOf m at_ ≤ 258 := by unfold mostOf; split <;> omega
      have ee : enc R m (k + 1) at_ = if (bst R at_ (mostOf m at_) at_).2 = 0 then signB (R at_) ++ enc R m k (at_ + 1) else (lenB (bst R at_ (mostOf m at_) at_).1 ++ dstB (bst R at_ (mostOf m at_) at_).2) ++ enc R m k (at_ + (bst R at_ (mostOf m at_) at_).1) := if_pos hlt
      have ec : cnt R m (k + 1) at_ c = if (bst R at_ (mostOf m at_) at_).2 = 0 then cnt R m k (at_ + 1) (c.1 + 1, c.2.1, c.2.2) else cnt R m k (at_ + (bst R at_ (mostOf m at_) at_).1) (c.1, c.2.1 + 1, if c.2.2 < (bst R at_ (mostOf m at_) at_).1 then (bst R at_ (mostOf m at_) at_).1 else c.2.2) := if_pos hlt
      rw [ee] at hl hp
      rw [ec] at hp
      have hb := bst_d R at_ (mostOf m at_) at_
      have hg := bst_ge R at_ (mostOf m at_) at_
      have main : wp_Mod_pack_142 n (nI m) mr post (wp_Mod_pack_17 n (nI m) mr post (k + 1)) (nI (fin st).length) (nI st.2.length) (nI c.1) (nI c.2.1) (nI c.2.2) mf (nI at_) (nI (bst R at_ (mostOf m at_) at_).1) (nI (bst R at_ (mostOf m at_) at_).2) := by
        unfold wp_Mod_pack_142
        by_cases h0 : (bst R at_ (mostOf m at_) at_).2 = 0
        · rw [if_pos h0] at hl hp
          rw [if_pos h0] at hp
          rw [h0]
          refine ⟨fun _ => ?_, fun h => absurd (by decide) h⟩
          refine ⟨vp_in_nI (by omega) (by omega), ?_⟩
          rw [nI_clamp (by omega), hA _ hlt]
          rw [List.length_append] at hl
          have hb1 := hR at_
          refine m_sign (by omega) (by omega) ho (by omega) hr (fun mf' hr' => ?_)
          intro z hz z2 hz2
          rw [hz, hz2, nI_1, nI_1]
          refine ih (at_ + 1) (pBs st (signB (R at_))) (c.1 + 1, c.2.1, c.2.2) mf' (by omega) (by omega) (pBs_ok _ ho) (by rw [pBs_len _ ho]; omega) hc hr' ?_
          rw [← pBs_app, ← List.append_assoc]
          exact hp
        · rw [if_neg h0] at hl hp
          rw [if_neg h0] at hp
          have h3 : 3 ≤ (bst R at_ (mostOf m at_) at_).1 := by
            rcases Nat.lt_or_ge (bst R at_ (mostOf m at_) at_).1 3 with q | q
            · exact absurd (hb.2.1.mpr (by omega)) h0
            · exact q
          have h4 : (bst R at_ (mostOf m at_) at_).1 ≤ mostOf m at_ := hb.2.2.resolve_right h0
          refine ⟨fun h => absurd h (nI_nle (by omega) (by omega)), fun _ => ?_⟩
          rw [List.length_append, List.length_append] at hl
          refine m_length (by omega) h3 (by omega) ho (by omega) hr (fun mf1 hr1 => ?_)
          refine m_distance (by omega) (by omega) (by omega) (pBs_ok _ ho) (by rw [pBs_len _ ho]; omega) hr1 (fun mf2 hr2 => ?_)
          rw [← pBs_app] at hr2
          intro z hz
          have go : ∀ lg, (if c.2.2 < (bst R at_ (mostOf m at_) at_).1 then (bst R at_ (mostOf m at_) at_).1 else c.2.2) = lg → wp_Mod_pack_17 n (nI m) mr post (k + 1) (nI (fin (pBs (pBs st (lenB (bst R at_ (mostOf m at_) at_).1)) (dstB (bst R at_ (mostOf m at_) at_).2))).length) (nI (pBs (pBs st (lenB (bst R at_ (mostOf m at_) at_).1)) (dstB (bst R at_ (mostOf m at_) at_).2)).2.length) (nI c.1) z (nI lg) mf2 (nI at_ + nI (bst R at_ (mostOf m at_) at_).1) := by
            intro lg hlg
            rw [hlg] at hp
            have hlg8 : lg ≤ 258 := by rw [← hlg]; split <;> omega
            rw [hz, nI_1, nI_add, ← pBs_app]
            refine ih (at_ + (bst R at_ (mostOf m at_) at_).1) (pBs st (lenB (bst R at_ (mostOf m at_) at_).1 ++ dstB (bst R at_ (mostOf m at_) at_).2)) (c.1, c.2.1 + 1, lg) mf2 (by omega) (by omega) (pBs_ok _ ho) (by rw [pBs_len _ ho, List.length_append]; omega) hlg8 hr2 ?_
            rw [← pBs_app, ← List.append_assoc]
            exact hp
          refine ⟨fun h5 => ?_, fun h5 => ?_⟩
          · have h6 := (nI_leI (by omega) (by omega)).mp h5
            intro z2 hz2
            rw [hz2]
            exact go c.2.2 (if_neg (by omega))
          · have h6 : c.2.2 < (bst R at_ (mostOf m at_) at_).1 := Nat.lt_of_not_le (fun q => h5 (nI_le q (by omega)))
            intro z2 hz2
            rw [hz2]
            exact go _ (if_pos h6)
      have inner := m_pack_58 (D := 0) hn hm2 hn2 hR hA hlt main
      rw [pk_sub hat]
      refine ⟨fun h => ?_, fun h => ?_⟩
      · have h1 : ¬ m - at_ < 258 := fun q => absurd h (nI_ge q (by decide))
        have e : mostOf m at_ = 258 := if_neg h1
        have := inner at_ (by omega)
        rw [e] at this
        exact ⟨_, this⟩
      · have h1 : m - at_ < 258 := Nat.lt_of_not_le (fun q => h (nI_le q (by omega)))
        have e : mostOf m at_ = m - at_ := if_pos h1
        intro z hz
        have := inner at_ (by omega)
        rw [e] at this
        rw [hz]
        exact ⟨_, this⟩
    · have ee : enc R m (k + 1) at_ = [] := if_neg hlt
      have ec : cnt R m (k + 1) at_ c = c := if_neg hlt
      rw [ee] at hl hp
      rw [ec] at hp
      exact ⟨fun _ => done st c mf ho (by simp only [List.length_nil] at hl; omega) hr hp, fun h => absurd (nI_le (by omega) (by omega)) h⟩
