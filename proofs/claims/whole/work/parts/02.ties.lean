/-! the ties of IF, ELSE and END: a forward scan as a pure fold, and what X's waiting and targets hold of it -/
theorem lm_d1 : ¬ (13 : Int32) = 15 := by decide
theorem lm_d2 : ¬ (13 : Int32) = 14 := by decide
theorem lm_d3 : ¬ (14 : Int32) = 15 := by decide
theorem lm_d4 : ¬ (14 : Int32) = 13 := by decide
theorem lm_d5 : ¬ (15 : Int32) = 13 := by decide
theorem lm_d6 : ¬ (15 : Int32) = 14 := by decide
def lm_step (c : Nat → Int32) (o : Bool) (q : Nat) (s : Nat × Nat) : Nat × Nat :=
  if s.1 ≠ 0 then s
  else if s.2 = 0 ∧ (c q = 15 ∨ (o = true ∧ c q = 14)) then (q + 1, 0)
  else if c q = 13 then (0, s.2 + 1)
  else if c q = 15 then (0, s.2 - 1)
  else (0, s.2)
def lm_sk (c : Nat → Int32) (o : Bool) (p : Nat) : Nat → Nat × Nat
  | 0 => (0, 0)
  | m + 1 => if m ≤ p then (0, 0) else lm_step c o m (lm_sk c o p m)
def lm_o (c : Nat → Int32) (p : Nat) : Bool := decide (c p = 13)
def lm_S (c : Nat → Int32) (p m : Nat) : Nat × Nat := lm_sk c (lm_o c p) p m
def lm_cn (c : Nat → Int32) : Nat → Int32
  | 0 => 0
  | n + 1 => if c n = 13 then lm_cn c n + 1 else if c n = 15 then lm_cn c n + (-1) else lm_cn c n
theorem lm_skE {c c' : Nat → Int32} {o : Bool} {p : Nat} : ∀ m : Nat, (∀ q, q < m → c' q = c q) → lm_sk c' o p m = lm_sk c o p m
  | 0, _ => rfl
  | m + 1, h => by
    have e := lm_skE (o := o) (p := p) m (fun q hq => h q (by omega))
    have e2 := h m (by omega)
    simp only [lm_sk, lm_step, e, e2]
theorem lm_cnE {c c' : Nat → Int32} : ∀ m : Nat, (∀ q, q < m → c' q = c q) → lm_cn c' m = lm_cn c m
  | 0, _ => rfl
  | m + 1, h => by
    have e := lm_cnE m (fun q hq => h q (by omega))
    have e2 := h m (by omega)
    simp only [lm_cn, e, e2]
theorem lm_skS {c : Nat → Int32} {o : Bool} {p m : Nat} (h : p < m) : lm_sk c o p (m + 1) = lm_step c o m (lm_sk c o p m) := if_neg (by omega)
theorem lm_skN {c : Nat → Int32} {o : Bool} {p : Nat} : lm_sk c o p (p + 1) = (0, 0) := if_pos (Nat.le_refl p)
theorem lm_stF {c : Nat → Int32} {o : Bool} {q f d : Nat} (h : f ≠ 0) : lm_step c o q (f, d) = (f, d) := if_pos h
theorem lm_stI {c : Nat → Int32} {o : Bool} {q d : Nat} (h : c q = 13) : lm_step c o q (0, d) = (0, d + 1) := by
  unfold lm_step
  rw [if_neg (fun z => z rfl), if_neg (by
    rw [h]
    intro z
    rcases z.2 with z | z
    · exact lm_d1 z
    · exact lm_d2 z.2), if_pos h]
theorem lm_stE0 {c : Nat → Int32} {q : Nat} (h : c q = 14) : lm_step c true q (0, 0) = (q + 1, 0) := by
  unfold lm_step
  rw [if_neg (fun z => z rfl), if_pos ⟨rfl, Or.inr ⟨rfl, h⟩⟩]
theorem lm_stEn {c : Nat → Int32} {o : Bool} {q d : Nat} (h : c q = 14) (hd : d ≠ 0 ∨ o = false) : lm_step c o q (0, d) = (0, d) := by
  unfold lm_step
  rw [if_neg (fun z => z rfl), if_neg (by
    rw [h]
    intro z
    rcases z.2 with y | y
    · exact lm_d3 y
    · rcases hd with hd | hd
      · exact hd z.1
      · rw [hd] at y
        exact Bool.noConfusion y.1), if_neg (by rw [h]; exact lm_d4), if_neg (by rw [h]; exact lm_d3)]
theorem lm_stD0 {c : Nat → Int32} {o : Bool} {q : Nat} (h : c q = 15) : lm_step c o q (0, 0) = (q + 1, 0) := by
  unfold lm_step
  rw [if_neg (fun z => z rfl), if_pos ⟨rfl, Or.inl h⟩]
theorem lm_stD {c : Nat → Int32} {o : Bool} {q d : Nat} (h : c q = 15) : lm_step c o q (0, d + 1) = (0, d) := by
  unfold lm_step
  rw [if_neg (fun z => z rfl), if_neg (fun z => absurd z.1 (Nat.succ_ne_zero d)), if_neg (by rw [h]; exact lm_d5), if_pos h]
  rfl
theorem lm_stO {c : Nat → Int32} {o : Bool} {q d : Nat} (h1 : c q ≠ 13) (h2 : c q ≠ 14) (h3 : c q ≠ 15) : lm_step c o q (0, d) = (0, d) := by
  unfold lm_step
  rw [if_neg (fun z => z rfl), if_neg (by
    intro z
    rcases z.2 with y | y
    · exact h3 y
    · exact h2 y.2), if_neg h1, if_neg h3]
/-- the scan finds a place behind p and within m -/
theorem lm_skB {c : Nat → Int32} {o : Bool} {p : Nat} : ∀ m : Nat, (lm_sk c o p m).1 = 0 ∨ (p + 1 < (lm_sk c o p m).1 ∧ (lm_sk c o p m).1 ≤ m)
  | 0 => Or.inl rfl
  | m + 1 => by
    by_cases h : m ≤ p
    · left
      simp only [lm_sk, if_pos h]
    · rw [lm_skS (by omega)]
      have ih := lm_skB (c := c) (o := o) (p := p) m
      revert ih
      generalize lm_sk c o p m = s
      intro ih
      unfold lm_step
      by_cases h1 : s.1 ≠ 0
      · rw [if_pos h1]
        omega
      · rw [if_neg h1]
        split
        · right
          show p + 1 < m + 1 ∧ m + 1 ≤ m + 1
          omega
        · left
          split
          · rfl
          · split <;> rfl
/-- not found at the end: not found before -/
theorem lm_skM {c : Nat → Int32} {o : Bool} {p m : Nat} : ∀ d : Nat, (lm_sk c o p (m + d)).1 = 0 → (lm_sk c o p m).1 = 0
  | 0, h => h
  | d + 1, h => by
    apply lm_skM d
    by_cases h1 : m + d ≤ p
    · rcases lm_skB (c := c) (o := o) (p := p) (m + d) with z | z
      · exact z
      · omega
    · have e : lm_sk c o p (m + (d + 1)) = lm_step c o (m + d) (lm_sk c o p (m + d)) := lm_skS (m := m + d) (by omega)
      rw [e] at h
      revert h
      generalize lm_sk c o p (m + d) = s
      intro h
      by_cases h2 : s.1 ≠ 0
      · unfold lm_step at h
        rw [if_pos h2] at h
        exact h
      · omega
/-- what the places hold: n statements, op parts not yet closed -/
def lm_Tie (n op : Nat) (c t w : Nat → Int32) : Prop :=
  n ≤ 40 ∧ op ≤ 4 ∧ lm_cn c n = nI op ∧
  (∀ p, p < n → ∃ j : Nat, j < 16 ∧ c p = nI j) ∧
  (∀ i, i < op → ∃ p : Nat, p < n ∧ w i = nI p ∧ (c p = 13 ∨ c p = 14) ∧ lm_S c p n = (0, op - 1 - i)) ∧
  (∀ p, p < n → (c p = 13 ∨ c p = 14) → ∀ f d : Nat, lm_S c p n = (f, d) → (f ≠ 0 → t p = nI f) ∧ (f = 0 → t p = 40 ∧ d < op ∧ w (op - 1 - d) = nI p))
theorem lm_tie0 : lm_Tie 0 0 (fun _ => 0) (fun _ => 0) (fun _ => 0) := ⟨by omega, by omega, nI_0.symm, fun p h => absurd h (Nat.not_lt_zero p), fun p h => absurd h (Nat.not_lt_zero p), fun p h => absurd h (Nat.not_lt_zero p)⟩
theorem lm_tieC (c t w : Nat → Int32) : lm_Tie 0 0 c t w := ⟨by omega, by omega, nI_0.symm, fun p h => absurd h (Nat.not_lt_zero p), fun p h => absurd h (Nat.not_lt_zero p), fun p h => absurd h (Nat.not_lt_zero p)⟩
theorem lm_uL {c : Nat → Int32} {n p : Nat} {x : Int32} (h : p < n) : upd c n x p = c p := pk_un (by omega)
theorem lm_SE {c : Nat → Int32} {n p : Nat} {x : Int32} (h : p < n) : lm_S (upd c n x) p (n + 1) = lm_step (upd c n x) (lm_o c p) n (lm_S c p n) := by
  have ho : lm_o (upd c n x) p = lm_o c p := by unfold lm_o; rw [lm_uL h]
  unfold lm_S
  rw [ho, lm_skS h, lm_skE n (fun q hq => lm_uL hq)]
theorem lm_SN {c : Nat → Int32} {p : Nat} : lm_S c p (p + 1) = (0, 0) := lm_skN
theorem lm_cnU {c : Nat → Int32} {n : Nat} {x : Int32} : lm_cn (upd c n x) n = lm_cn c n := lm_cnE n (fun q hq => lm_uL hq)
theorem lm_code {c : Nat → Int32} {n j : Nat} (hj : j < 16) (h : ∀ p, p < n → ∃ j : Nat, j < 16 ∧ c p = nI j) : ∀ p, p < n + 1 → ∃ i : Nat, i < 16 ∧ upd c n (nI j) p = nI i := by
  intro p hp
  by_cases e : p = n
  · exact ⟨j, hj, by rw [e, pk_us]⟩
  · rw [pk_un e]
    exact h p (by omega)
