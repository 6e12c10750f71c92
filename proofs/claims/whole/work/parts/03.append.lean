/-! the ties after one more statement -/
theorem lm_tieO {n op j : Nat} {c t w : Nat → Int32} (T : lm_Tie n op c t w) (hn : n < 40) (hj : j < 13) : lm_Tie (n + 1) op (upd c n (nI j)) (upd t n 40) w := by
  obtain ⟨h1, h2, h3, h4, h5, h6⟩ := T
  have hx : upd c n (nI j) n = nI j := pk_us
  have g13 : nI j ≠ 13 := fun z => by have := (nI_eq (a := j) (b := 13) (by omega) (by omega)).mp z; omega
  have g14 : nI j ≠ 14 := fun z => by have := (nI_eq (a := j) (b := 14) (by omega) (by omega)).mp z; omega
  have g15 : nI j ≠ 15 := fun z => by have := (nI_eq (a := j) (b := 15) (by omega) (by omega)).mp z; omega
  have k13 : upd c n (nI j) n ≠ 13 := by rw [hx]; exact g13
  have k14 : upd c n (nI j) n ≠ 14 := by rw [hx]; exact g14
  have k15 : upd c n (nI j) n ≠ 15 := by rw [hx]; exact g15
  have hs : ∀ p, p < n → lm_S (upd c n (nI j)) p (n + 1) = lm_S c p n := by
    intro p hp
    rw [lm_SE hp]
    generalize lm_S c p n = s
    obtain ⟨f, d⟩ := s
    by_cases hf : f = 0
    · rw [hf]; exact lm_stO k13 k14 k15
    · exact lm_stF hf
  refine ⟨by omega, h2, ?_, lm_code (by omega) h4, ?_, ?_⟩
  · show (if upd c n (nI j) n = 13 then _ else if upd c n (nI j) n = 15 then _ else lm_cn (upd c n (nI j)) n) = nI op
    rw [if_neg k13, if_neg k15, lm_cnU, h3]
  · intro i hi
    obtain ⟨p, a, b, e, g⟩ := h5 i hi
    exact ⟨p, by omega, b, by rw [lm_uL a]; exact e, by rw [hs p a]; exact g⟩
  · intro p hp hc f d e
    by_cases ep : p = n
    · rw [ep] at hc
      rcases hc with hc | hc
      · exact absurd hc k13
      · exact absurd hc k14
    · have hp' : p < n := by omega
      rw [lm_uL hp'] at hc
      rw [hs p hp'] at e
      rw [lm_uL hp']
      exact h6 p hp' hc f d e
theorem lm_tieI {n op : Nat} {c t w : Nat → Int32} (T : lm_Tie n op c t w) (hn : n < 40) (ho : op < 4) : lm_Tie (n + 1) (op + 1) (upd c n 13) (upd t n 40) (upd w op (nI n)) := by
  obtain ⟨h1, h2, h3, h4, h5, h6⟩ := T
  have hx : upd c n 13 n = 13 := pk_us
  have hs : ∀ p, p < n → ∀ f d, lm_S c p n = (f, d) → lm_S (upd c n 13) p (n + 1) = if f = 0 then (0, d + 1) else (f, d) := by
    intro p hp f d e
    rw [lm_SE hp, e]
    by_cases hf : f = 0
    · rw [if_pos hf, hf]; exact lm_stI hx
    · rw [if_neg hf]; exact lm_stF hf
  refine ⟨by omega, by omega, ?_, lm_code (j := 13) (by omega) h4, ?_, ?_⟩
  · show (if upd c n 13 n = 13 then lm_cn (upd c n 13) n + 1 else _) = nI (op + 1)
    rw [if_pos hx, lm_cnU, h3, nI_1]
  · intro i hi
    by_cases ei : i = op
    · refine ⟨n, by omega, by rw [ei, pk_us], Or.inl hx, ?_⟩
      rw [lm_SN, ei]
      have : op + 1 - 1 - op = 0 := by omega
      rw [this]
    · obtain ⟨p, a, b, e, g⟩ := h5 i (by omega)
      refine ⟨p, by omega, by rw [pk_un ei]; exact b, by rw [lm_uL a]; exact e, ?_⟩
      rw [hs p a _ _ g, if_pos rfl]
      have : op - 1 - i + 1 = op + 1 - 1 - i := by omega
      rw [this]
  · intro p hp hc f d e
    by_cases ep : p = n
    · subst ep
      rw [lm_SN] at e
      have e1 : f = 0 := (congrArg Prod.fst e).symm
      have e2 : d = 0 := (congrArg Prod.snd e).symm
      subst e1 e2
      refine ⟨fun z => absurd rfl z, fun _ => ⟨pk_us, by omega, ?_⟩⟩
      have : op + 1 - 1 - 0 = op := by omega
      rw [this, pk_us]
    · have hp' : p < n := by omega
      rw [lm_uL hp'] at hc
      rw [lm_uL hp']
      rcases hq : lm_S c p n with ⟨f', d'⟩
      rw [hs p hp' f' d' hq] at e
      have H := h6 p hp' hc f' d' hq
      by_cases hf : f' = 0
      · rw [if_pos hf] at e
        have e1 : f = 0 := (congrArg Prod.fst e).symm
        have e2 : d = d' + 1 := (congrArg Prod.snd e).symm
        subst e1 e2
        obtain ⟨q1, q2, q3⟩ := H.2 hf
        refine ⟨fun z => absurd rfl z, fun _ => ⟨q1, by omega, ?_⟩⟩
        have : op + 1 - 1 - (d' + 1) = op - 1 - d' := by omega
        rw [this, pk_un (by omega)]
        exact q3
      · rw [if_neg hf] at e
        have e1 : f = f' := (congrArg Prod.fst e).symm
        subst e1
        exact ⟨fun _ => H.1 hf, fun z => absurd z hf⟩
/-- the inmost part that is not closed -/
theorem lm_top {n op : Nat} {c t w : Nat → Int32} (T : lm_Tie n op c t w) (ho : 0 < op) : ∃ p : Nat, p < n ∧ w (op - 1) = nI p ∧ (c p = 13 ∨ c p = 14) ∧ lm_S c p n = (0, 0) := by
  obtain ⟨p, a, b, e, g⟩ := T.2.2.2.2.1 (op - 1) (by omega)
  refine ⟨p, a, b, e, ?_⟩
  rw [g]
  have : op - 1 - (op - 1) = 0 := by omega
  rw [this]
theorem lm_tieE {n op q : Nat} {c t w : Nat → Int32} (T : lm_Tie n op c t w) (hn : n < 40) (ho : 0 < op) (hw : w (op - 1) = nI q) (hq : q < n) (hc : c q = 13) : lm_Tie (n + 1) op (upd c n 14) (upd (upd t n 40) q (nI (n + 1))) (upd w (op - 1) (nI n)) := by
  have TT := T
  obtain ⟨h1, h2, h3, h4, h5, h6⟩ := T
  have hx : upd c n 14 n = 14 := pk_us
  obtain ⟨q', a', b', e', g'⟩ := lm_top TT ho
  have eq : q' = q := by
    rw [hw] at b'
    exact ((nI_eq (by omega) (by omega)).mp b').symm
  subst eq
  have htop : ∀ p, p < n → (c p = 13 ∨ c p = 14) → lm_S c p n = (0, 0) → p = q' := by
    intro p hp hcp e
    have H := ((h6 p hp hcp 0 0 e).2 rfl).2.2
    have : op - 1 - 0 = op - 1 := by omega
    rw [this, hw] at H
    exact ((nI_eq (by omega) (by omega)).mp H).symm
  have hs : ∀ p, p < n → (c p = 13 ∨ c p = 14) → ∀ f d, lm_S c p n = (f, d) → lm_S (upd c n 14) p (n + 1) = if f = 0 ∧ d = 0 then (n + 1, 0) else (f, d) := by
    intro p hp hcp f d e
    rw [lm_SE hp, e]
    by_cases hf : f = 0
    · subst hf
      by_cases hd : d = 0
      · subst hd
        rw [if_pos ⟨rfl, rfl⟩]
        have ep := htop p hp hcp e
        have ot : lm_o c p = true := by unfold lm_o; rw [ep, hc]; rfl
        rw [ot]
        exact lm_stE0 hx
      · rw [if_neg (fun z => hd z.2)]
        exact lm_stEn hx (Or.inl hd)
    · rw [if_neg (fun z => hf z.1)]
      exact lm_stF hf
  refine ⟨by omega, h2, ?_, lm_code (j := 14) (by omega) h4, ?_, ?_⟩
  · show (if upd c n 14 n = 13 then _ else if upd c n 14 n = 15 then _ else lm_cn (upd c n 14) n) = nI op
    rw [if_neg (by rw [hx]; exact lm_d4), if_neg (by rw [hx]; exact lm_d3), lm_cnU, h3]
  · intro i hi
    by_cases ei : i = op - 1
    · refine ⟨n, by omega, by rw [ei, pk_us], Or.inr hx, ?_⟩
      rw [lm_SN, ei]
      have : op - 1 - (op - 1) = 0 := by omega
      rw [this]
    · obtain ⟨p, a, b, e, g⟩ := h5 i (by omega)
      refine ⟨p, by omega, by rw [pk_un ei]; exact b, by rw [lm_uL a]; exact e, ?_⟩
      rw [hs p a e _ _ g, if_neg (by omega)]
  · intro p hp hcp f d e
    by_cases ep : p = n
    · subst ep
      rw [lm_SN] at e
      have e1 : f = 0 := (congrArg Prod.fst e).symm
      have e2 : d = 0 := (congrArg Prod.snd e).symm
      subst e1 e2
      refine ⟨fun z => absurd rfl z, fun _ => ⟨?_, by omega, ?_⟩⟩
      · rw [pk_un (by omega), pk_us]
      · have : op - 1 - 0 = op - 1 := by omega
        rw [this, pk_us]
    · have hp' : p < n := by omega
      rw [lm_uL hp'] at hcp
      rcases hqq : lm_S c p n with ⟨f', d'⟩
      rw [hs p hp' hcp f' d' hqq] at e
      have H := h6 p hp' hcp f' d' hqq
      by_cases hf : f' = 0
      · subst hf
        by_cases hd : d' = 0
        · subst hd
          rw [if_pos ⟨rfl, rfl⟩] at e
          have e1 : f = n + 1 := (congrArg Prod.fst e).symm
          subst e1
          have ep2 := htop p hp' hcp hqq
          rw [ep2]
          exact ⟨fun _ => pk_us, fun z => absurd z (Nat.succ_ne_zero n)⟩
        · rw [if_neg (fun z => hd z.2)] at e
          have e1 : f = 0 := (congrArg Prod.fst e).symm
          have e2 : d = d' := (congrArg Prod.snd e).symm
          subst e1 e2
          obtain ⟨q1, q2, q3⟩ := H.2 rfl
          have np : p ≠ q' := by
            intro z
            rw [z, g'] at hqq
            exact hd (congrArg Prod.snd hqq).symm
          refine ⟨fun z => absurd rfl z, fun _ => ⟨?_, q2, ?_⟩⟩
          · rw [pk_un np, lm_uL hp']; exact q1
          · rw [pk_un (by omega)]; exact q3
      · rw [if_neg (fun z => hf z.1)] at e
        have e1 : f = f' := (congrArg Prod.fst e).symm
        subst e1
        have np : p ≠ q' := by
          intro z
          rw [z, g'] at hqq
          exact hf (congrArg Prod.fst hqq).symm
        exact ⟨fun _ => by rw [pk_un np, lm_uL hp']; exact H.1 hf, fun z => absurd z hf⟩
theorem lm_tieD {n op q : Nat} {c t w : Nat → Int32} (T : lm_Tie n op c t w) (hn : n < 40) (ho : 0 < op) (hw : w (op - 1) = nI q) (hq : q < n) : lm_Tie (n + 1) (op - 1) (upd c n 15) (upd (upd t n 40) q (nI (n + 1))) w := by
  have TT := T
  obtain ⟨h1, h2, h3, h4, h5, h6⟩ := T
  have hx : upd c n 15 n = 15 := pk_us
  obtain ⟨q', a', b', e', g'⟩ := lm_top TT ho
  have eq : q' = q := by
    rw [hw] at b'
    exact ((nI_eq (by omega) (by omega)).mp b').symm
  subst eq
  have htop : ∀ p, p < n → (c p = 13 ∨ c p = 14) → lm_S c p n = (0, 0) → p = q' := by
    intro p hp hcp e
    have H := ((h6 p hp hcp 0 0 e).2 rfl).2.2
    have : op - 1 - 0 = op - 1 := by omega
    rw [this, hw] at H
    exact ((nI_eq (by omega) (by omega)).mp H).symm
  have hs : ∀ p, p < n → ∀ f d, lm_S c p n = (f, d) → lm_S (upd c n 15) p (n + 1) = if f = 0 then (if d = 0 then (n + 1, 0) else (0, d - 1)) else (f, d) := by
    intro p hp f d e
    rw [lm_SE hp, e]
    by_cases hf : f = 0
    · subst hf
      rw [if_pos rfl]
      by_cases hd : d = 0
      · subst hd
        rw [if_pos rfl]
        exact lm_stD0 hx
      · rw [if_neg hd]
        obtain ⟨d2, rfl⟩ : ∃ d2, d = d2 + 1 := ⟨d - 1, by omega⟩
        rw [lm_stD hx]
        rfl
    · rw [if_neg hf]
      exact lm_stF hf
  refine ⟨by omega, by omega, ?_, lm_code (j := 15) (by omega) h4, ?_, ?_⟩
  · show (if upd c n 15 n = 13 then _ else if upd c n 15 n = 15 then lm_cn (upd c n 15) n + (-1) else _) = nI (op - 1)
    rw [if_neg (by rw [hx]; exact lm_d5), if_pos hx, lm_cnU, h3]
    obtain ⟨o2, rfl⟩ : ∃ o2, op = o2 + 1 := ⟨op - 1, by omega⟩
    exact pk_m1 o2
  · intro i hi
    obtain ⟨p, a, b, e, g⟩ := h5 i (by omega)
    refine ⟨p, by omega, b, by rw [lm_uL a]; exact e, ?_⟩
    rw [hs p a _ _ g, if_pos rfl, if_neg (by omega)]
    have : op - 1 - i - 1 = op - 1 - 1 - i := by omega
    rw [this]
  · intro p hp hcp f d e
    by_cases ep : p = n
    · subst ep
      rw [hx] at hcp
      rcases hcp with z | z
      · exact absurd z lm_d5
      · exact absurd z lm_d6
    · have hp' : p < n := by omega
      rw [lm_uL hp'] at hcp
      rcases hqq : lm_S c p n with ⟨f', d'⟩
      rw [hs p hp' f' d' hqq] at e
      have H := h6 p hp' hcp f' d' hqq
      by_cases hf : f' = 0
      · subst hf
        rw [if_pos rfl] at e
        by_cases hd : d' = 0
        · subst hd
          rw [if_pos rfl] at e
          have e1 : f = n + 1 := (congrArg Prod.fst e).symm
          subst e1
          have ep2 := htop p hp' hcp hqq
          rw [ep2]
          exact ⟨fun _ => pk_us, fun z => absurd z (Nat.succ_ne_zero n)⟩
        · rw [if_neg hd] at e
          have e1 : f = 0 := (congrArg Prod.fst e).symm
          have e2 : d = d' - 1 := (congrArg Prod.snd e).symm
          subst e1 e2
          obtain ⟨q1, q2, q3⟩ := H.2 rfl
          have np : p ≠ q' := by
            intro z
            rw [z, g'] at hqq
            exact hd (congrArg Prod.snd hqq).symm
          refine ⟨fun z => absurd rfl z, fun _ => ⟨?_, by omega, ?_⟩⟩
          · rw [pk_un np, lm_uL hp']; exact q1
          · have : op - 1 - 1 - (d' - 1) = op - 1 - d' := by omega
            rw [this]
            exact q3
      · rw [if_neg hf] at e
        have e1 : f = f' := (congrArg Prod.fst e).symm
        subst e1
        have np : p ≠ q' := by
          intro z
          rw [z, g'] at hqq
          exact hf (congrArg Prod.fst hqq).symm
        exact ⟨fun _ => by rw [pk_un np, lm_uL hp']; exact H.1 hf, fun z => absurd z hf⟩
