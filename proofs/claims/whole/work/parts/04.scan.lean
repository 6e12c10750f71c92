/-! the depth of the forward scan, read backward, and where a jump leads -/
theorem lm_back {c : Nat → Int32} {p n : Nat} (h : lm_S c p n = (0, 0)) {m : Nat} (hm : m ≤ n) : (lm_S c p m).1 = 0 := by
  apply lm_skM (n - m)
  have e : m + (n - m) = n := by omega
  rw [e]
  exact congrArg Prod.fst h
/-- the depth ahead of statement m -/
def lm_D (c : Nat → Int32) (p m : Nat) : Nat := (lm_S c p m).2
theorem lm_SD {c : Nat → Int32} {p n : Nat} (h : lm_S c p n = (0, 0)) {m : Nat} (hm : m ≤ n) : lm_S c p m = (0, lm_D c p m) := Prod.ext (lm_back h hm) rfl
theorem lm_SS {c : Nat → Int32} {p q : Nat} (hp : p < q) : lm_S c p (q + 1) = lm_step c (lm_o c p) q (lm_S c p q) := lm_skS hp
theorem lm_D0 {c : Nat → Int32} {p : Nat} : lm_D c p (p + 1) = 0 := congrArg Prod.snd lm_SN
theorem lm_D13 {c : Nat → Int32} {p q n : Nat} (h : lm_S c p n = (0, 0)) (hp : p < q) (hq : q < n) (e : c q = 13) : lm_D c p (q + 1) = lm_D c p q + 1 := by
  have a := lm_SS (c := c) hp
  rw [lm_SD h (m := q) (by omega), lm_stI e] at a
  exact congrArg Prod.snd a
theorem lm_D15 {c : Nat → Int32} {p q n : Nat} (h : lm_S c p n = (0, 0)) (hp : p < q) (hq : q < n) (e : c q = 15) : lm_D c p q = lm_D c p (q + 1) + 1 := by
  have a := lm_SS (c := c) hp
  have b := lm_back h (m := q + 1) (by omega)
  rw [lm_SD h (m := q) (by omega)] at a
  rcases hd : lm_D c p q with _ | d
  · rw [hd, lm_stD0 e] at a
    rw [a] at b
    exact absurd b (Nat.succ_ne_zero q)
  · rw [hd, lm_stD e] at a
    have : lm_D c p (q + 1) = d := congrArg Prod.snd a
    rw [this]
theorem lm_D14 {c : Nat → Int32} {p q n : Nat} (h : lm_S c p n = (0, 0)) (hp : p < q) (hq : q < n) (e : c q = 14) : lm_D c p (q + 1) = lm_D c p q ∧ (c p = 13 → lm_D c p q ≠ 0) := by
  have a := lm_SS (c := c) hp
  have b := lm_back h (m := q + 1) (by omega)
  rw [lm_SD h (m := q) (by omega)] at a
  by_cases ho : c p = 13
  · have ot : lm_o c p = true := by unfold lm_o; rw [ho]; rfl
    by_cases hd : lm_D c p q = 0
    · rw [hd, ot, lm_stE0 e] at a
      rw [a] at b
      exact absurd b (Nat.succ_ne_zero q)
    · rw [lm_stEn e (Or.inl hd)] at a
      exact ⟨(congrArg Prod.snd a : (lm_S c p (q + 1)).2 = ((0, lm_D c p q) : Nat × Nat).2), fun _ => hd⟩
  · have ot : lm_o c p = false := by unfold lm_o; exact decide_eq_false ho
    rw [lm_stEn e (Or.inr ot)] at a
    exact ⟨(congrArg Prod.snd a : (lm_S c p (q + 1)).2 = ((0, lm_D c p q) : Nat × Nat).2), fun z => absurd z ho⟩
theorem lm_DO {c : Nat → Int32} {p q n : Nat} (h : lm_S c p n = (0, 0)) (hp : p < q) (hq : q < n) (h1 : c q ≠ 13) (h2 : c q ≠ 14) (h3 : c q ≠ 15) : lm_D c p (q + 1) = lm_D c p q := by
  have a := lm_SS (c := c) hp
  rw [lm_SD h (m := q) (by omega), lm_stO h1 h2 h3] at a
  exact (congrArg Prod.snd a : (lm_S c p (q + 1)).2 = ((0, lm_D c p q) : Nat × Nat).2)
theorem lm_skle {c : Nat → Int32} {o : Bool} {p : Nat} : ∀ m : Nat, (lm_sk c o p m).2 ≤ m
  | 0 => Nat.le_refl 0
  | m + 1 => by
    by_cases h : m ≤ p
    · simp only [lm_sk, if_pos h]; omega
    · rw [lm_skS (by omega)]
      have ih := lm_skle (c := c) (o := o) (p := p) m
      revert ih
      generalize lm_sk c o p m = s
      intro ih
      unfold lm_step
      split
      · omega
      · split
        · show 0 ≤ m + 1
          omega
        · split
          · show s.2 + 1 ≤ m + 1
            omega
          · split
            · show s.2 - 1 ≤ m + 1
              omega
            · show s.2 ≤ m + 1
              omega
theorem lm_Dle {c : Nat → Int32} {p m : Nat} : lm_D c p m ≤ m := lm_skle m
/-- where the program goes on behind the part of p -/
def lm_B (c : Nat → Int32) (n p : Nat) : Nat := if (lm_S c p n).1 = 0 then n else (lm_S c p n).1
theorem lm_Ble {c : Nat → Int32} {n p : Nat} : lm_B c n p ≤ n := by
  unfold lm_B
  rcases lm_skB (c := c) (o := lm_o c p) (p := p) n with h | h
  · rw [if_pos (show (lm_S c p n).1 = 0 from h)]; exact Nat.le_refl n
  · have h' : p + 1 < (lm_S c p n).1 ∧ (lm_S c p n).1 ≤ n := h
    rw [if_neg (by omega)]
    exact h'.2
theorem lm_Bgt {c : Nat → Int32} {n p : Nat} (hp : p < n) : p < lm_B c n p := by
  unfold lm_B
  rcases lm_skB (c := c) (o := lm_o c p) (p := p) n with h | h
  · rw [if_pos (show (lm_S c p n).1 = 0 from h)]; exact hp
  · have h' : p + 1 < (lm_S c p n).1 ∧ (lm_S c p n).1 ≤ n := h
    rw [if_neg (by omega)]
    omega
/-- X's targets against lm_B -/
theorem lm_tgt {n op : Nat} {c t w : Nat → Int32} (T : lm_Tie n op c t w) {p : Nat} (hp : p < n) (hc : c p = 13 ∨ c p = 14) : ∃ k : Nat, k ≤ 40 ∧ t p = nI k ∧ (k = lm_B c n p ∨ (lm_B c n p = n ∧ n ≤ k)) := by
  obtain ⟨h1, h2, h3, h4, h5, h6⟩ := T
  rcases hs : lm_S c p n with ⟨f, d⟩
  have H := h6 p hp hc f d hs
  have hB : lm_B c n p = if f = 0 then n else f := by unfold lm_B; rw [hs]
  by_cases hf : f = 0
  · rw [if_pos hf] at hB
    exact ⟨40, by omega, (H.2 hf).1, Or.inr ⟨hB, h1⟩⟩
  · rw [if_neg hf] at hB
    have := lm_Ble (c := c) (n := n) (p := p)
    exact ⟨f, by omega, H.1 hf, Or.inl hB.symm⟩
