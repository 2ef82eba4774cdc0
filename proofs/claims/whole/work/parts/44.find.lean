/-! PURE: the class's chains, its search, its packing -/
def mk (R : Nat → Nat) (p : Nat) : Nat := ((R p * 33 + R (p + 1)) * 33 + R (p + 2)) % 1024
def lst (R : Nat → Nat) : Nat → Nat → Option Nat
  | 0, _ => none
  | C + 1, u => if mk R C = u then some C else lst R C u
def oI : Option Nat → Int32
  | none => -1
  | some i => nI i
theorem lst_some {R : Nat → Nat} {u p : Nat} : ∀ C, lst R C u = some p → p < C ∧ mk R p = u ∧ ∀ i, p < i → i < C → mk R i ≠ u
  | 0, h => by cases h
  | C + 1, h => by
    unfold lst at h
    split at h
    · rename_i hm
      cases h
      exact ⟨Nat.lt_succ_self _, hm, fun i h1 h2 => absurd h1 (by omega)⟩
    · rename_i hm
      obtain ⟨a, b, c⟩ := lst_some C h
      refine ⟨by omega, b, fun i h1 h2 => ?_⟩
      by_cases e : i = C
      · rw [e]; exact hm
      · exact c i h1 (by omega)
theorem lst_none {R : Nat → Nat} {u : Nat} : ∀ C, lst R C u = none → ∀ i, i < C → mk R i ≠ u
  | 0, _, i, h => absurd h (Nat.not_lt_zero i)
  | C + 1, h, i, hi => by
    unfold lst at h
    split at h
    · cases h
    · rename_i hm
      by_cases e : i = C
      · rw [e]; exact hm
      · exact lst_none C h i (by omega)
def CH (R : Nat → Nat) (C : Nat) (nw nx : Nat → Int32) : Prop := (∀ u, u < 1024 → nw u = oI (lst R C u)) ∧ ∀ i, i < C → nx i = oI (lst R i (mk R i))
theorem mk_lt (R : Nat → Nat) (p : Nat) : mk R p < 1024 := Nat.mod_lt _ (by decide)
theorem CH.step {R : Nat → Nat} {C : Nat} {nw nx : Nat → Int32} (h : CH R C nw nx) : CH R (C + 1) (upd nw (mk R C) (nI C)) (upd nx C (nw (mk R C))) := by
  refine ⟨fun u hu => ?_, fun i hi => ?_⟩
  · by_cases e : u = mk R C
    · subst e
      rw [pk_us]
      show _ = oI (if mk R C = mk R C then some C else _)
      rw [if_pos rfl]
      rfl
    · rw [pk_un e, h.1 u hu]
      show _ = oI (if mk R C = u then some C else _)
      rw [if_neg (fun q => e q.symm)]
  · by_cases e : i = C
    · subst e
      rw [pk_us, h.1 _ (mk_lt R i)]
    · rw [pk_un e, h.2 i (by omega)]
theorem w_mark {n : Nat → Nat} {R : Nat → Nat} {rb : Nat → Int32} {p : Nat} {post : Int32 → Unit → Prop} (hm2 : n 9 ≤ 6960) (hR : Byt R) (hA : Agr (n 9) R rb) (h : p + 3 ≤ n 9) (hp : post (nI (mk R p)) ()) : wp_Fin_mark n rb (nI p) post := by
  unfold wp_Fin_mark
  refine ⟨fun q => absurd q (nI_pos (by omega)), fun _ => ?_⟩
  rw [show (3 : Int32) = nI 3 from rfl, show (1 : Int32) = nI 1 from rfl, show (2 : Int32) = nI 2 from rfl, nI_add, nI_add, nI_add]
  refine ⟨fun _ => ?_, fun q => absurd (nI_le h (by omega)) q⟩
  refine ⟨vp_in_nI (by omega) (by omega), vp_in_nI (by omega) (by omega), vp_in_nI (by omega) (by omega), ?_⟩
  rw [nI_clamp (by omega), nI_clamp (by omega), nI_clamp (by omega), hA _ (by omega), hA _ (by omega), hA _ (by omega)]
  have h1 := hR p
  have h2 := hR (p + 1)
  have h3 := hR (p + 2)
  rw [show (33 : Int32) = nI 33 from rfl, pk_mul, nI_add, pk_mul, nI_add, show (1023 : Int32) = nI 1023 from rfl, pk_andN (by omega) 10 (by decide)]
  exact hp
theorem w_chain_0 {n : Nat → Nat} {R : Nat → Nat} {rb : Nat → Int32} {at_ T : Nat} {post : Int32 × (Nat → Int32) × (Nat → Int32) → Prop} (hm2 : n 9 ≤ 6960) (hm3 : 3 ≤ n 9) (h13 : n 13 = 1024) (h14 : n 14 = n 9) (hR : Byt R) (hA : Agr (n 9) R rb) (hat : at_ ≤ 6960) (hT : T = at_ ∨ T = n 9 - 2) (hT1 : T ≤ at_) (hT2 : T ≤ n 9 - 2)
    (hp : ∀ nw nx, CH R T nw nx → post (nI T, nw, nx)) : ∀ (k C : Nat) (nw nx : Nat → Int32), C + k = T → CH R C nw nx → wp_Fin_chainUpTo_0 n rb (nI at_) post (k + 1) (nI C) nw nx := by
  intro k
  induction k with
  | zero =>
    intro C nw nx hk hc
    have e : C = T := by omega
    subst e
    unfold wp_Fin_chainUpTo_0
    refine ⟨fun _ => hp nw nx hc, fun h1 => ⟨fun _ => hp nw nx hc, fun h2 => ?_⟩⟩
    rcases hT with q | q
    · exact absurd (nI_le (by omega) (by omega)) h1
    · rw [show (3 : Int32) = nI 3 from rfl, nI_add] at h2
      exact absurd (nI_lt (by omega) (by omega)) h2
  | succ k ih =>
    intro C nw nx hk hc
    unfold wp_Fin_chainUpTo_0
    refine ⟨fun h => absurd h (nI_ge (by omega) (by omega)), fun _ => ?_⟩
    rw [show (3 : Int32) = nI 3 from rfl, nI_add]
    refine ⟨fun h => absurd h (nI_nlt (by omega) (by omega)), fun _ => ?_⟩
    have hk1 := mk_lt R C
    refine w_mark hm2 hR hA (by omega) ?_
    refine ⟨by rw [h13]; exact vp_in_nI hk1 (by decide), ?_⟩
    intro z6 hz6
    refine ⟨by rw [h14]; exact vp_in_nI (by omega) (by omega), ?_⟩
    intro f8 hf8
    refine ⟨by rw [h13]; exact vp_in_nI hk1 (by decide), ?_⟩
    intro f10 hf10 z11 hz11
    rw [hz11, nI_1]
    rw [nI_clamp (by omega)] at hz6 hf8 hf10
    rw [hf10, hf8, hz6]
    exact ih (C + 1) _ _ (by omega) hc.step
theorem w_same_3 {n : Nat → Nat} {R : Nat → Nat} {rb : Nat → Int32} {p at_ most : Nat} {post : Int32 → Unit → Prop} (hm2 : n 9 ≤ 6960) (hR : Byt R) (hA : Agr (n 9) R rb) (hpa : p < at_) (hm : at_ + most ≤ n 9) (hp : post (nI (runL R p at_ most)) ()) :
    ∀ (k i : Nat), i + k = most → (∀ t, t < i → R (p + t) = R (at_ + t)) → wp_Fin_sameBytes_3 n rb (nI p) (nI at_) (nI most) post (k + 1) (nI i) := by
  intro k
  induction k with
  | zero =>
    intro i hi hs
    unfold wp_Fin_sameBytes_3
    refine ⟨fun _ => ?_, fun h => absurd (nI_le (by omega) (by omega)) h⟩
    have := runL_split R i most p at_ (by omega) hs
    rw [show most - i = 0 by omega, show runL R (p + i) (at_ + i) 0 = 0 from rfl] at this
    rw [this] at hp
    exact hp
  | succ k ih =>
    intro i hi hs
    unfold wp_Fin_sameBytes_3
    refine ⟨fun h => absurd h (nI_ge (by omega) (by omega)), fun _ => ?_⟩
    rw [nI_add, nI_add]
    refine ⟨fun h => absurd h (nI_ge (by omega) (by omega)), fun _ => ?_⟩
    refine ⟨vp_in_nI (by omega) (by omega), vp_in_nI (by omega) (by omega), ?_⟩
    rw [nI_clamp (by omega), nI_clamp (by omega), hA _ (by omega), hA _ (by omega)]
    have hb1 := hR (at_ + i)
    have hb2 := hR (p + i)
    refine ⟨fun hne => ?_, fun he => ?_⟩
    · have hne2 : R (p + i) ≠ R (at_ + i) := fun q => hne (by rw [q])
      have := runL_split R i most p at_ (by omega) hs
      have h3 : runL R (p + i) (at_ + i) (most - i) = 0 := by
        rw [show most - i = k + 1 by omega]
        exact if_neg hne2
      rw [h3] at this
      rw [this] at hp
      exact hp
    · intro z hz
      rw [hz, nI_1]
      refine ih (i + 1) (by omega) (fun t ht => ?_)
      by_cases e : t = i
      · subst e
        exact (nI_eq (by omega) (by omega)).mp he
      · exact hs t (by omega)
theorem w_same {n : Nat → Nat} {R : Nat → Nat} {rb : Nat → Int32} {p at_ most : Nat} {post : Int32 → Unit → Prop} (hm2 : n 9 ≤ 6960) (hR : Byt R) (hA : Agr (n 9) R rb) (hpa : p < at_) (hm : at_ + most ≤ n 9) (hp : post (nI (runL R p at_ most)) ()) :
    wp_Fin_sameBytes n rb (nI p) (nI at_) (nI most) post := by
  unfold wp_Fin_sameBytes
  exact ⟨_, w_same_3 hm2 hR hA hpa hm hp most 0 (by omega) (fun t h => absurd h (Nat.not_lt_zero t))⟩
/-- three bytes that are the same have the same mark -/
theorem mk_same {R : Nat → Nat} {p q k : Nat} (h : 3 ≤ runL R p q k) : mk R p = mk R q := by
  have h0 := runL_same R k p q 0 (by omega)
  have h1 := runL_same R k p q 1 (by omega)
  have h2 := runL_same R k p q 2 (by omega)
  rw [Nat.add_zero, Nat.add_zero] at h0
  unfold mk
  rw [h0, h1, h2]
def cbL (b : Nat × Nat) : Nat := if b.2 = 0 then 0 else b.1
theorem bst_gap {R : Nat → Nat} {at_ most D E : Nat} (hDE : D ≤ E) (hE : E ≤ at_) (h : ∀ i, at_ - E ≤ i → i < at_ - D → mk R i ≠ mk R at_) : bst R at_ most E = bst R at_ most D := by
  refine bst_skip D E hDE (fun d h1 h2 => ?_)
  have hg := bst_ge R at_ most D
  rcases Nat.lt_or_ge (runL R (at_ - d) at_ most) 3 with q | q
  · omega
  · exact absurd (mk_same q) (h (at_ - d) (by omega) (by omega))
theorem w_look_53 {n : Nat → Nat} {R : Nat → Nat} {rb nw nx : Nat → Int32} {at_ most : Nat} {ch : Int32} {post : Int32 × Int32 × Int32 × (Nat → Int32) × (Nat → Int32) → Prop} (hm2 : n 9 ≤ 6960) (h14 : n 14 = n 9) (hR : Byt R) (hA : Agr (n 9) R rb) (hm : at_ + most ≤ n 9) (hc : CH R at_ nw nx)
    (hp : post (ch, nI (cbL (bst R at_ most at_)), nI (bst R at_ most at_).2, nw, nx)) :
    ∀ (k q tr : Nat), q ≤ at_ → q < k → tr + q ≤ at_ → wp_Fin_lookFrom_53 n rb (nI at_) post k ch (nI (cbL (bst R at_ most (at_ - q)))) (nI (bst R at_ most (at_ - q)).2) nw nx (nI most) (oI (lst R q (mk R at_))) (nI tr) := by
  intro k
  induction k with
  | zero => intro q tr h1 h2; omega
  | succ k ih =>
    intro q tr hq hqk htr
    have hb := bst_d R at_ most (at_ - q)
    have hg := bst_ge R at_ most (at_ - q)
    unfold wp_Fin_lookFrom_53
    cases hl : lst R q (mk R at_) with
    | none =>
      have hno := lst_none q hl
      have e : bst R at_ most at_ = bst R at_ most (at_ - q) := bst_gap (by omega) (Nat.le_refl _) (fun i h1 h2 => hno i (by omega))
      rw [e] at hp
      exact ⟨fun _ => hp, fun _ => ⟨fun _ => hp, fun _ => ⟨fun _ => hp, fun h => absurd (by decide) h⟩⟩⟩
    | some p =>
      obtain ⟨hpq, hpm, hpb⟩ := lst_some q hl
      rw [show oI (some p) = nI p from rfl]
      have hcb : cbL (bst R at_ most (at_ - q)) ≤ 6960 := by unfold cbL; split <;> omega
      refine ⟨fun h => absurd h (nI_ge (by omega) (by omega)), fun _ => ⟨fun h => ?_, fun h => ?_⟩⟩
      · have h1 := (nI_leI (by omega) (by omega)).mp h
        by_cases h0 : most = 0
        · have e : bst R at_ most at_ = bst R at_ most (at_ - q) := bst_full (by omega) (by omega)
          rw [e] at hp
          exact hp
        · have h2 : most ≤ (bst R at_ most (at_ - q)).1 := by
            unfold cbL at h1
            split at h1
            · omega
            · exact h1
          have e : bst R at_ most at_ = bst R at_ most (at_ - q) := bst_full (by omega) h2
          rw [e] at hp
          exact hp
      · refine ⟨fun h2 => absurd h2 (nI_pos (by omega)), fun _ => ⟨fun _ => ?_, fun h2 => absurd (nI_lt (by omega) (by omega)) h2⟩⟩
        have hgap : bst R at_ most (at_ - p - 1) = bst R at_ most (at_ - q) := bst_gap (by omega) (by omega) (fun i h1 h2 => hpb i (by omega) (by omega))
        have hst : bst R at_ most (at_ - p) = if (bst R at_ most (at_ - q)).1 < runL R p at_ most then (runL R p at_ most, at_ - p) else bst R at_ most (at_ - q) := by
          rw [← hgap]
          rw [show at_ - p = at_ - p - 1 + 1 by omega]
          show (if (bst R at_ most (at_ - p - 1)).1 < runL R (at_ - (at_ - p - 1 + 1)) at_ most then _ else _) = _
          rw [show at_ - (at_ - p - 1 + 1) = p by omega]
          rfl
        have hnx : nx p = oI (lst R p (mk R at_)) := by rw [hc.2 p (by omega), hpm]
        have hrl := runL_le R most p at_
        have next := ih p (tr + 1) (by omega) (by omega) (by omega)
        have hlt : cbL (bst R at_ most (at_ - q)) < most := Nat.lt_of_not_le (fun z => h (nI_le z (by omega)))
        have hcb2 : cbL (bst R at_ most (at_ - q)) ≤ (bst R at_ most (at_ - q)).1 := by unfold cbL; split <;> omega
        rw [nI_add, nI_add]
        refine ⟨vp_in_nI (by omega) (by omega), vp_in_nI (by omega) (by omega), ?_⟩
        rw [nI_clamp (by omega), nI_clamp (by omega), hA _ (by omega), hA _ (by omega)]
        refine ⟨fun hne => ?_, fun _ => ?_⟩
        · have hne2 : R (p + cbL (bst R at_ most (at_ - q))) ≠ R (at_ + cbL (bst R at_ most (at_ - q))) := fun z => hne (by rw [z])
          have hstop := runL_stop (k := most) hne2
          rw [if_neg (by omega)] at hst
          rw [hst] at next
          refine ⟨by rw [h14]; exact vp_in_nI (by omega) (by omega), ?_⟩
          intro z1 hz1 z2 hz2
          rw [nI_clamp (by omega), hnx] at hz1
          rw [hz1, hz2, nI_1]
          exact next
        · unfold wp_Fin_keepIfLonger
          refine w_same hm2 hR hA (by omega) hm ⟨fun h3 => ?_, fun h3 => ?_⟩
          · have h4 : runL R p at_ most < 3 := (nI_ltI (by omega) (by decide)).mp h3
            rw [if_neg (by omega)] at hst
            rw [hst] at next
            refine ⟨by rw [h14]; exact vp_in_nI (by omega) (by omega), ?_⟩
            intro z1 hz1 z2 hz2
            rw [nI_clamp (by omega), hnx] at hz1
            rw [hz1, hz2, nI_1]
            exact next
          · have h4 : ¬ runL R p at_ most < 3 := fun z => h3 (nI_lt z (by decide))
            refine ⟨fun h5 => ?_, fun h5 => ?_⟩
            · have h6 := (nI_leI (by omega) (by omega)).mp h5
              rw [if_neg (by omega)] at hst
              rw [hst] at next
              refine ⟨by rw [h14]; exact vp_in_nI (by omega) (by omega), ?_⟩
              intro z1 hz1 z2 hz2
              rw [nI_clamp (by omega), hnx] at hz1
              rw [hz1, hz2, nI_1]
              exact next
            · have h6 : ¬ runL R p at_ most ≤ cbL (bst R at_ most (at_ - q)) := fun z => h5 (nI_le z (by omega))
              have h7 : (bst R at_ most (at_ - q)).1 < runL R p at_ most := by
                unfold cbL at h6
                split at h6
                · rename_i h8
                  have := hb.2.1.mp h8
                  omega
                · omega
              rw [if_pos h7] at hst
              rw [hst] at next
              have ecb : cbL (runL R p at_ most, at_ - p) = runL R p at_ most := by
                unfold cbL
                rw [if_neg (by simp only; omega)]
              rw [ecb] at next
              intro z0 hz0
              refine ⟨by rw [h14]; exact vp_in_nI (by omega) (by omega), ?_⟩
              intro z1 hz1 z2 hz2
              rw [nI_clamp (by omega), hnx] at hz1
              rw [pk_sub (by omega)] at hz0
              rw [hz0, hz1, hz2, nI_1]
              exact next
theorem w_look {n : Nat → Nat} {R : Nat → Nat} {rb nw nx : Nat → Int32} {at_ C : Nat} {l0 d0 : Int32} {post : Int32 × Int32 × Int32 × (Nat → Int32) × (Nat → Int32) → Prop} (hm2 : n 9 ≤ 6960) (hm3 : 3 ≤ n 9) (h13 : n 13 = 1024) (h14 : n 14 = n 9) (hR : Byt R) (hA : Agr (n 9) R rb) (hat : at_ < n 9) (hC1 : C ≤ at_) (hC2 : C ≤ n 9 - 2) (hc : CH R C nw nx)
    (hp : ∀ T nw' nx', T ≤ at_ → T ≤ n 9 - 2 → CH R T nw' nx' → post (nI T, nI (cbL (bst R at_ (mostOf (n 9) at_) at_)), nI (bst R at_ (mostOf (n 9) at_) at_).2, nw', nx')) :
    wp_Fin_lookFrom n (nI C) l0 d0 rb nw nx (nI at_) post := by
  have hmo : mostOf (n 9) at_ ≤ n 9 - at_ ∧ mostOf (n 9) at_ ≤ 258 := by unfold mostOf; split <;> omega
  unfold wp_Fin_lookFrom
  unfold wp_Fin_chainUpTo
  obtain ⟨T, hT, hT1, hT2, hCT⟩ : ∃ T, (T = at_ ∨ T = n 9 - 2) ∧ T ≤ at_ ∧ T ≤ n 9 - 2 ∧ C ≤ T := by
    rcases Nat.le_total at_ (n 9 - 2) with q | q
    · exact ⟨at_, Or.inl rfl, Nat.le_refl _, q, hC1⟩
    · exact ⟨n 9 - 2, Or.inr rfl, q, Nat.le_refl _, hC2⟩
  refine ⟨_, w_chain_0 hm2 hm3 h13 h14 hR hA (by omega) hT hT1 hT2 (fun nw' nx' hc' => ?_) (T - C) C nw nx (by omega) hc⟩
  intro z3 hz3
  have ez : z3 = nI (mostOf (n 9) at_) := by
    rw [hz3, pk_sub (by omega), show (258 : Int32) = nI 258 from rfl]
    unfold mostOf
    by_cases h : n 9 - at_ < 258
    · rw [if_pos h, if_pos (nI_lt h (by decide))]
    · rw [if_neg h, if_neg (nI_nlt (a := n 9 - at_) (b := 258) (by omega) (by omega))]
  rw [ez]
  refine ⟨fun h => absurd h (nI_pos (by omega)), fun _ => ⟨fun h => ?_, fun h => ?_⟩⟩
  · have h3 : 3 ≤ mostOf (n 9) at_ := Nat.le_of_not_lt (fun q => absurd h (nI_ge q (by decide)))
    have eT : T = at_ := by omega
    subst eT
    refine w_mark hm2 hR hA (by omega) ?_
    have hk1 := mk_lt R T
    refine ⟨by rw [h13]; exact vp_in_nI hk1 (by decide), ?_⟩
    intro z9 hz9
    rw [nI_clamp (by omega)] at hz9
    have hz9 : z9 = nw' (mk R T) := hz9
    rw [hc'.1 _ hk1] at hz9
    rw [hz9]
    have := w_look_53 (most := mostOf (n 9) T) (ch := nI T) (post := post) hm2 h14 hR hA (by omega) hc' (hp T nw' nx' (Nat.le_refl _) hT2 hc') (T + 1) T 0 (Nat.le_refl _) (Nat.lt_succ_self _) (by omega)
    rw [Nat.sub_self] at this
    exact ⟨_, this⟩
  · have h3 : mostOf (n 9) at_ < 3 := Nat.lt_of_not_le (fun q => h (nI_le q (by omega)))
    have e : bst R at_ (mostOf (n 9) at_) at_ = (2, 0) := bst_full (D := 0) (Nat.zero_le _) (by show _ ≤ 2; omega)
    have := hp T nw' nx' hT1 hT2 hc'
    rw [e] at this
    exact this
