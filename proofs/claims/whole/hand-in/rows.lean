section
/-! rows pasted from the kit's PURE-ROWS -/
theorem pk_us {f : Nat → Int32} {k : Nat} {x : Int32} : upd f k x k = x := if_pos rfl
theorem pk_un {f : Nat → Int32} {k j : Nat} {x : Int32} (h : j ≠ k) : upd f k x j = f j := if_neg h
theorem pk_sub {a b : Nat} (h : b ≤ a) : nI a - nI b = nI (a - b) := by
  obtain ⟨c, rfl⟩ : ∃ c, a = c + b := ⟨a - b, by omega⟩
  rw [← nI_add, Int32.add_sub_cancel, Nat.add_sub_cancel]
theorem pk_m1 (n : Nat) : nI (n + 1) + (-1) = nI n := by
  rw [← nI_1, Int32.add_assoc, show (1 : Int32) + (-1) = 0 from rfl, Int32.add_zero]
theorem pk_mul (a b : Nat) : nI a * nI b = nI (a * b) := (Int32.ofNat_mul a b).symm
theorem pk_div {a d : Nat} (ha : a < 2 ^ 31) (h0 : 0 < d) (hd : d < 2 ^ 31) : nI a / nI d = nI (a / d) := by
  apply Int32.toInt_inj.mp
  rw [lg_idiv_nonneg (by rw [nI_toInt ha]; omega) (by rw [nI_toInt hd]; omega), nI_toInt ha, nI_toInt hd, nI_toInt (Nat.lt_of_le_of_lt (Nat.div_le_self a d) ha)]
  first | rfl | exact (Int.natCast_ediv _ _).symm
theorem pk_rem {a d : Nat} (ha : a < 2 ^ 31) (h0 : 0 < d) (hd : d < 2 ^ 31) : nI a - nI a / nI d * nI d = nI (a % d) := by
  rw [pk_div ha h0 hd, pk_mul, pk_sub (Nat.div_mul_le_self a d)]
  exact congrArg nI (by have := Nat.div_add_mod' a d; omega)
theorem pk_ix (x : Int32) {n : Nat} (hn : n < 2 ^ 31) : x < 0 ∨ nI n ≤ x ∨ ∃ j : Nat, j < n ∧ x = nI j := by
  by_cases h : x < 0
  · exact Or.inl h
  · obtain ⟨j, hj, rfl⟩ := nI_of h
    by_cases h2 : j < n
    · exact Or.inr (Or.inr ⟨j, h2, rfl⟩)
    · exact Or.inr (Or.inl (nI_le (by omega) hj))
theorem pk_le {x y : Int32} {A B : Prop} (a b : Nat) (f : a ≤ b → A) (g : b < a → B) (hx : x = nI a := by rfl) (hy : y = nI b := by rfl) (ha : a < 2 ^ 31 := by omega) (hb : b < 2 ^ 31 := by omega) : (x ≤ y → A) ∧ (¬ x ≤ y → B) := by
  subst hx hy
  rw [nI_leI ha hb]
  exact ⟨f, fun z => g (by omega)⟩
theorem pk_lt {x y : Int32} {A B : Prop} (a b : Nat) (f : a < b → A) (g : b ≤ a → B) (hx : x = nI a := by rfl) (hy : y = nI b := by rfl) (ha : a < 2 ^ 31 := by omega) (hb : b < 2 ^ 31 := by omega) : (x < y → A) ∧ (¬ x < y → B) := by
  subst hx hy
  rw [nI_ltI ha hb]
  exact ⟨f, fun z => g (by omega)⟩
theorem pk_eq {x y : Int32} {A B : Prop} (a b : Nat) (f : a = b → A) (g : a ≠ b → B) (hx : x = nI a := by rfl) (hy : y = nI b := by rfl) (ha : a < 2 ^ 31 := by omega) (hb : b < 2 ^ 31 := by omega) : (x = y → A) ∧ (¬ x = y → B) := by
  subst hx hy
  rw [nI_eq ha hb]
  exact ⟨f, g⟩
theorem pk_in {x : Int32} (n N : Nat) (h : n < N) (hx : x = nI n := by rfl) (hN : N < 2 ^ 31 := by omega) : vp_in x N := by
  subst hx
  exact vp_in_nI h hN
theorem pk_cl {x : Int32} (n : Nat) (hx : x = nI n := by rfl) (h : n < 2 ^ 31 := by omega) : x.toNatClampNeg = n := by
  subst hx
  exact nI_clamp h
theorem pk_tn {n : Nat} (h : n < 2 ^ 32) : (nI n).toBitVec.toNat = n := Nat.mod_eq_of_lt h
theorem pk_and (x : Int32) {m : Int32} (k : Nat) (hm : m.toBitVec.toNat = 2 ^ k - 1) : x &&& m = nI (x.toBitVec.toNat % 2 ^ k) := by
  apply Int32.toBitVec_inj.mp
  apply BitVec.eq_of_toNat_eq
  rw [Int32.toBitVec_and, BitVec.toNat_and, hm, Nat.and_two_pow_sub_one_eq_mod]
  show _ = (BitVec.ofNat 32 _).toNat
  rw [BitVec.toNat_ofNat]
  exact (Nat.mod_eq_of_lt (Nat.lt_of_le_of_lt (Nat.mod_le _ _) x.toBitVec.isLt)).symm
theorem pk_andN {n : Nat} (h : n < 2 ^ 32) {m : Int32} (k : Nat) (hm : m.toBitVec.toNat = 2 ^ k - 1) : nI n &&& m = nI (n % 2 ^ k) := by
  rw [pk_and _ k hm, pk_tn h]
theorem pk_andE (x : Int32) {m : Int32} (k : Nat) (hm : m.toBitVec.toNat = 2 ^ k - 1) : ∃ j : Nat, j < 2 ^ k ∧ x &&& m = nI j := ⟨_, Nat.mod_lt _ (Nat.two_pow_pos k), pk_and x k hm⟩
theorem pk_andIn (x : Int32) {m : Int32} (k : Nat) (hm : m.toBitVec.toNat = 2 ^ k - 1) (hk : k ≤ 30) : vp_in (x &&& m) (2 ^ k) := by
  obtain ⟨j, hj, e⟩ := pk_andE x k hm
  rw [e]
  exact vp_in_nI hj (Nat.lt_of_le_of_lt (Nat.pow_le_pow_right (by decide) hk) (by decide))
theorem pk_shl (a s : Int32) (k : Nat) (hs : (s.toBitVec.smod 32).toNat = k) : (a <<< s).toBitVec.toNat = a.toBitVec.toNat * 2 ^ k % 2 ^ 32 := by
  show (a.toBitVec <<< (s.toBitVec.smod 32).toNat).toNat = _
  rw [hs, BitVec.toNat_shiftLeft, Nat.shiftLeft_eq]
theorem pk_shlN {n : Nat} (s : Int32) (k : Nat) (hs : (s.toBitVec.smod 32).toNat = k) (h : n * 2 ^ k < 2 ^ 32) : nI n <<< s = nI (n * 2 ^ k) := by
  apply Int32.toBitVec_inj.mp
  apply BitVec.eq_of_toNat_eq
  have hn : n < 2 ^ 32 := Nat.lt_of_le_of_lt (Nat.le_mul_of_pos_right n (Nat.two_pow_pos k)) h
  rw [pk_shl _ _ k hs, pk_tn hn, pk_tn h, Nat.mod_eq_of_lt h]
theorem pk_shr (a s : Int32) (k : Nat) (hs : (s.toBitVec.smod 32).toNat = k) : (a >>> s).toInt = a.toInt >>> k := by
  show (a.toBitVec.sshiftRight (s.toBitVec.smod 32).toNat).toInt = _
  rw [hs, BitVec.toInt_sshiftRight]
  rfl
theorem pk_shrN {n : Nat} (h : n < 2 ^ 31) (s : Int32) (k : Nat) (hs : (s.toBitVec.smod 32).toNat = k) : nI n >>> s = nI (n / 2 ^ k) := by
  apply Int32.toInt_inj.mp
  have h2 : n / 2 ^ k ≤ n := Nat.div_le_self _ _
  rw [pk_shr _ _ k hs, nI_toInt h, nI_toInt (by omega), Int.shiftRight_eq_div_pow]
  rfl
theorem pk_loop {σ : Type} (W : Nat → Nat → σ → Prop) (I : Nat → σ → Prop) (e i0 : Nat) (s : σ) (hi : i0 ≤ e) (h0 : I i0 s) (hx : ∀ n s, I e s → W (n + 1) e s)
    (hs : ∀ n i s, i < e → I i s → (∀ s', I (i + 1) s' → W n (i + 1) s') → W (n + 1) i s) : ∃ n, W n i0 s :=
  ⟨e + 1, loop_i W I e hx hs (e + 1) i0 s hi (by omega) h0⟩
end
section
/-! the ties of IF, ELSE and END: a forward scan as a pure fold, and what X's waiting and targets hold of it -/
theorem lm_d1 : ¬ (13 : Int32) = 15 := by decide
theorem lm_d2 : ¬ (13 : Int32) = 14 := by decide
theorem lm_d3 : ¬ (14 : Int32) = 15 := by decide
theorem lm_d4 : ¬ (14 : Int32) = 13 := by decide
theorem lm_d5 : ¬ (15 : Int32) = 13 := by decide
theorem lm_d6 : ¬ (15 : Int32) = 14 := by decide
def lm_step (c : Nat → Int32) (o : Bool) (q : Nat) (s : Nat × Nat) : Nat × Nat :=
  if s.1 ≠ 0 then s
  else if s.2 = 0 ∧ (c q = 15 ∨ (o = true ∧ c q = 14)) then (q + 1, 0)
  else if c q = 13 then (0, s.2 + 1)
  else if c q = 15 then (0, s.2 - 1)
  else (0, s.2)
def lm_sk (c : Nat → Int32) (o : Bool) (p : Nat) : Nat → Nat × Nat
  | 0 => (0, 0)
  | m + 1 => if m ≤ p then (0, 0) else lm_step c o m (lm_sk c o p m)
def lm_o (c : Nat → Int32) (p : Nat) : Bool := decide (c p = 13)
def lm_S (c : Nat → Int32) (p m : Nat) : Nat × Nat := lm_sk c (lm_o c p) p m
def lm_cn (c : Nat → Int32) : Nat → Int32
  | 0 => 0
  | n + 1 => if c n = 13 then lm_cn c n + 1 else if c n = 15 then lm_cn c n + (-1) else lm_cn c n
theorem lm_skE {c c' : Nat → Int32} {o : Bool} {p : Nat} : ∀ m : Nat, (∀ q, q < m → c' q = c q) → lm_sk c' o p m = lm_sk c o p m
  | 0, _ => rfl
  | m + 1, h => by
    have e := lm_skE (o := o) (p := p) m (fun q hq => h q (by omega))
    have e2 := h m (by omega)
    simp only [lm_sk, lm_step, e, e2]
theorem lm_cnE {c c' : Nat → Int32} : ∀ m : Nat, (∀ q, q < m → c' q = c q) → lm_cn c' m = lm_cn c m
  | 0, _ => rfl
  | m + 1, h => by
    have e := lm_cnE m (fun q hq => h q (by omega))
    have e2 := h m (by omega)
    simp only [lm_cn, e, e2]
theorem lm_skS {c : Nat → Int32} {o : Bool} {p m : Nat} (h : p < m) : lm_sk c o p (m + 1) = lm_step c o m (lm_sk c o p m) := if_neg (by omega)
theorem lm_skN {c : Nat → Int32} {o : Bool} {p : Nat} : lm_sk c o p (p + 1) = (0, 0) := if_pos (Nat.le_refl p)
theorem lm_stF {c : Nat → Int32} {o : Bool} {q f d : Nat} (h : f ≠ 0) : lm_step c o q (f, d) = (f, d) := if_pos h
theorem lm_stI {c : Nat → Int32} {o : Bool} {q d : Nat} (h : c q = 13) : lm_step c o q (0, d) = (0, d + 1) := by
  unfold lm_step
  rw [if_neg (fun z => z rfl), if_neg (by
    rw [h]
    intro z
    rcases z.2 with z | z
    · exact lm_d1 z
    · exact lm_d2 z.2), if_pos h]
theorem lm_stE0 {c : Nat → Int32} {q : Nat} (h : c q = 14) : lm_step c true q (0, 0) = (q + 1, 0) := by
  unfold lm_step
  rw [if_neg (fun z => z rfl), if_pos ⟨rfl, Or.inr ⟨rfl, h⟩⟩]
theorem lm_stEn {c : Nat → Int32} {o : Bool} {q d : Nat} (h : c q = 14) (hd : d ≠ 0 ∨ o = false) : lm_step c o q (0, d) = (0, d) := by
  unfold lm_step
  rw [if_neg (fun z => z rfl), if_neg (by
    rw [h]
    intro z
    rcases z.2 with y | y
    · exact lm_d3 y
    · rcases hd with hd | hd
      · exact hd z.1
      · rw [hd] at y
        exact Bool.noConfusion y.1), if_neg (by rw [h]; exact lm_d4), if_neg (by rw [h]; exact lm_d3)]
theorem lm_stD0 {c : Nat → Int32} {o : Bool} {q : Nat} (h : c q = 15) : lm_step c o q (0, 0) = (q + 1, 0) := by
  unfold lm_step
  rw [if_neg (fun z => z rfl), if_pos ⟨rfl, Or.inl h⟩]
theorem lm_stD {c : Nat → Int32} {o : Bool} {q d : Nat} (h : c q = 15) : lm_step c o q (0, d + 1) = (0, d) := by
  unfold lm_step
  rw [if_neg (fun z => z rfl), if_neg (fun z => absurd z.1 (Nat.succ_ne_zero d)), if_neg (by rw [h]; exact lm_d5), if_pos h]
  rfl
theorem lm_stO {c : Nat → Int32} {o : Bool} {q d : Nat} (h1 : c q ≠ 13) (h2 : c q ≠ 14) (h3 : c q ≠ 15) : lm_step c o q (0, d) = (0, d) := by
  unfold lm_step
  rw [if_neg (fun z => z rfl), if_neg (by
    intro z
    rcases z.2 with y | y
    · exact h3 y
    · exact h2 y.2), if_neg h1, if_neg h3]
/-- the scan finds a place behind p and within m -/
theorem lm_skB {c : Nat → Int32} {o : Bool} {p : Nat} : ∀ m : Nat, (lm_sk c o p m).1 = 0 ∨ (p + 1 < (lm_sk c o p m).1 ∧ (lm_sk c o p m).1 ≤ m)
  | 0 => Or.inl rfl
  | m + 1 => by
    by_cases h : m ≤ p
    · left
      simp only [lm_sk, if_pos h]
    · rw [lm_skS (by omega)]
      have ih := lm_skB (c := c) (o := o) (p := p) m
      revert ih
      generalize lm_sk c o p m = s
      intro ih
      unfold lm_step
      by_cases h1 : s.1 ≠ 0
      · rw [if_pos h1]
        omega
      · rw [if_neg h1]
        split
        · right
          show p + 1 < m + 1 ∧ m + 1 ≤ m + 1
          omega
        · left
          split
          · rfl
          · split <;> rfl
/-- not found at the end: not found before -/
theorem lm_skM {c : Nat → Int32} {o : Bool} {p m : Nat} : ∀ d : Nat, (lm_sk c o p (m + d)).1 = 0 → (lm_sk c o p m).1 = 0
  | 0, h => h
  | d + 1, h => by
    apply lm_skM d
    by_cases h1 : m + d ≤ p
    · rcases lm_skB (c := c) (o := o) (p := p) (m + d) with z | z
      · exact z
      · omega
    · have e : lm_sk c o p (m + (d + 1)) = lm_step c o (m + d) (lm_sk c o p (m + d)) := lm_skS (m := m + d) (by omega)
      rw [e] at h
      revert h
      generalize lm_sk c o p (m + d) = s
      intro h
      by_cases h2 : s.1 ≠ 0
      · unfold lm_step at h
        rw [if_pos h2] at h
        exact h
      · omega
/-- what the places hold: n statements, op parts not yet closed -/
def lm_Tie (n op : Nat) (c t w : Nat → Int32) : Prop :=
  n ≤ 40 ∧ op ≤ 4 ∧ lm_cn c n = nI op ∧
  (∀ p, p < n → ∃ j : Nat, j < 16 ∧ c p = nI j) ∧
  (∀ i, i < op → ∃ p : Nat, p < n ∧ w i = nI p ∧ (c p = 13 ∨ c p = 14) ∧ lm_S c p n = (0, op - 1 - i)) ∧
  (∀ p, p < n → (c p = 13 ∨ c p = 14) → ∀ f d : Nat, lm_S c p n = (f, d) → (f ≠ 0 → t p = nI f) ∧ (f = 0 → t p = 40 ∧ d < op ∧ w (op - 1 - d) = nI p))
theorem lm_tie0 : lm_Tie 0 0 (fun _ => 0) (fun _ => 0) (fun _ => 0) := ⟨by omega, by omega, nI_0.symm, fun p h => absurd h (Nat.not_lt_zero p), fun p h => absurd h (Nat.not_lt_zero p), fun p h => absurd h (Nat.not_lt_zero p)⟩
theorem lm_tieC (c t w : Nat → Int32) : lm_Tie 0 0 c t w := ⟨by omega, by omega, nI_0.symm, fun p h => absurd h (Nat.not_lt_zero p), fun p h => absurd h (Nat.not_lt_zero p), fun p h => absurd h (Nat.not_lt_zero p)⟩
theorem lm_uL {c : Nat → Int32} {n p : Nat} {x : Int32} (h : p < n) : upd c n x p = c p := pk_un (by omega)
theorem lm_SE {c : Nat → Int32} {n p : Nat} {x : Int32} (h : p < n) : lm_S (upd c n x) p (n + 1) = lm_step (upd c n x) (lm_o c p) n (lm_S c p n) := by
  have ho : lm_o (upd c n x) p = lm_o c p := by unfold lm_o; rw [lm_uL h]
  unfold lm_S
  rw [ho, lm_skS h, lm_skE n (fun q hq => lm_uL hq)]
theorem lm_SN {c : Nat → Int32} {p : Nat} : lm_S c p (p + 1) = (0, 0) := lm_skN
theorem lm_cnU {c : Nat → Int32} {n : Nat} {x : Int32} : lm_cn (upd c n x) n = lm_cn c n := lm_cnE n (fun q hq => lm_uL hq)
theorem lm_code {c : Nat → Int32} {n j : Nat} (hj : j < 16) (h : ∀ p, p < n → ∃ j : Nat, j < 16 ∧ c p = nI j) : ∀ p, p < n + 1 → ∃ i : Nat, i < 16 ∧ upd c n (nI j) p = nI i := by
  intro p hp
  by_cases e : p = n
  · exact ⟨j, hj, by rw [e, pk_us]⟩
  · rw [pk_un e]
    exact h p (by omega)
end
section
/-! the ties after one more statement -/
theorem lm_tieO {n op j : Nat} {c t w : Nat → Int32} (T : lm_Tie n op c t w) (hn : n < 40) (hj : j < 13) : lm_Tie (n + 1) op (upd c n (nI j)) (upd t n 40) w := by
  obtain ⟨h1, h2, h3, h4, h5, h6⟩ := T
  have hx : upd c n (nI j) n = nI j := pk_us
  have g13 : nI j ≠ 13 := fun z => by have := (nI_eq (a := j) (b := 13) (by omega) (by omega)).mp z; omega
  have g14 : nI j ≠ 14 := fun z => by have := (nI_eq (a := j) (b := 14) (by omega) (by omega)).mp z; omega
  have g15 : nI j ≠ 15 := fun z => by have := (nI_eq (a := j) (b := 15) (by omega) (by omega)).mp z; omega
  have k13 : upd c n (nI j) n ≠ 13 := by rw [hx]; exact g13
  have k14 : upd c n (nI j) n ≠ 14 := by rw [hx]; exact g14
  have k15 : upd c n (nI j) n ≠ 15 := by rw [hx]; exact g15
  have hs : ∀ p, p < n → lm_S (upd c n (nI j)) p (n + 1) = lm_S c p n := by
    intro p hp
    rw [lm_SE hp]
    generalize lm_S c p n = s
    obtain ⟨f, d⟩ := s
    by_cases hf : f = 0
    · rw [hf]; exact lm_stO k13 k14 k15
    · exact lm_stF hf
  refine ⟨by omega, h2, ?_, lm_code (by omega) h4, ?_, ?_⟩
  · show (if upd c n (nI j) n = 13 then _ else if upd c n (nI j) n = 15 then _ else lm_cn (upd c n (nI j)) n) = nI op
    rw [if_neg k13, if_neg k15, lm_cnU, h3]
  · intro i hi
    obtain ⟨p, a, b, e, g⟩ := h5 i hi
    exact ⟨p, by omega, b, by rw [lm_uL a]; exact e, by rw [hs p a]; exact g⟩
  · intro p hp hc f d e
    by_cases ep : p = n
    · rw [ep] at hc
      rcases hc with hc | hc
      · exact absurd hc k13
      · exact absurd hc k14
    · have hp' : p < n := by omega
      rw [lm_uL hp'] at hc
      rw [hs p hp'] at e
      rw [lm_uL hp']
      exact h6 p hp' hc f d e
theorem lm_tieI {n op : Nat} {c t w : Nat → Int32} (T : lm_Tie n op c t w) (hn : n < 40) (ho : op < 4) : lm_Tie (n + 1) (op + 1) (upd c n 13) (upd t n 40) (upd w op (nI n)) := by
  obtain ⟨h1, h2, h3, h4, h5, h6⟩ := T
  have hx : upd c n 13 n = 13 := pk_us
  have hs : ∀ p, p < n → ∀ f d, lm_S c p n = (f, d) → lm_S (upd c n 13) p (n + 1) = if f = 0 then (0, d + 1) else (f, d) := by
    intro p hp f d e
    rw [lm_SE hp, e]
    by_cases hf : f = 0
    · rw [if_pos hf, hf]; exact lm_stI hx
    · rw [if_neg hf]; exact lm_stF hf
  refine ⟨by omega, by omega, ?_, lm_code (j := 13) (by omega) h4, ?_, ?_⟩
  · show (if upd c n 13 n = 13 then lm_cn (upd c n 13) n + 1 else _) = nI (op + 1)
    rw [if_pos hx, lm_cnU, h3, nI_1]
  · intro i hi
    by_cases ei : i = op
    · refine ⟨n, by omega, by rw [ei, pk_us], Or.inl hx, ?_⟩
      rw [lm_SN, ei]
      have : op + 1 - 1 - op = 0 := by omega
      rw [this]
    · obtain ⟨p, a, b, e, g⟩ := h5 i (by omega)
      refine ⟨p, by omega, by rw [pk_un ei]; exact b, by rw [lm_uL a]; exact e, ?_⟩
      rw [hs p a _ _ g, if_pos rfl]
      have : op - 1 - i + 1 = op + 1 - 1 - i := by omega
      rw [this]
  · intro p hp hc f d e
    by_cases ep : p = n
    · subst ep
      rw [lm_SN] at e
      have e1 : f = 0 := (congrArg Prod.fst e).symm
      have e2 : d = 0 := (congrArg Prod.snd e).symm
      subst e1 e2
      refine ⟨fun z => absurd rfl z, fun _ => ⟨pk_us, by omega, ?_⟩⟩
      have : op + 1 - 1 - 0 = op := by omega
      rw [this, pk_us]
    · have hp' : p < n := by omega
      rw [lm_uL hp'] at hc
      rw [lm_uL hp']
      rcases hq : lm_S c p n with ⟨f', d'⟩
      rw [hs p hp' f' d' hq] at e
      have H := h6 p hp' hc f' d' hq
      by_cases hf : f' = 0
      · rw [if_pos hf] at e
        have e1 : f = 0 := (congrArg Prod.fst e).symm
        have e2 : d = d' + 1 := (congrArg Prod.snd e).symm
        subst e1 e2
        obtain ⟨q1, q2, q3⟩ := H.2 hf
        refine ⟨fun z => absurd rfl z, fun _ => ⟨q1, by omega, ?_⟩⟩
        have : op + 1 - 1 - (d' + 1) = op - 1 - d' := by omega
        rw [this, pk_un (by omega)]
        exact q3
      · rw [if_neg hf] at e
        have e1 : f = f' := (congrArg Prod.fst e).symm
        subst e1
        exact ⟨fun _ => H.1 hf, fun z => absurd z hf⟩
/-- the inmost part that is not closed -/
theorem lm_top {n op : Nat} {c t w : Nat → Int32} (T : lm_Tie n op c t w) (ho : 0 < op) : ∃ p : Nat, p < n ∧ w (op - 1) = nI p ∧ (c p = 13 ∨ c p = 14) ∧ lm_S c p n = (0, 0) := by
  obtain ⟨p, a, b, e, g⟩ := T.2.2.2.2.1 (op - 1) (by omega)
  refine ⟨p, a, b, e, ?_⟩
  rw [g]
  have : op - 1 - (op - 1) = 0 := by omega
  rw [this]
theorem lm_tieE {n op q : Nat} {c t w : Nat → Int32} (T : lm_Tie n op c t w) (hn : n < 40) (ho : 0 < op) (hw : w (op - 1) = nI q) (hq : q < n) (hc : c q = 13) : lm_Tie (n + 1) op (upd c n 14) (upd (upd t n 40) q (nI (n + 1))) (upd w (op - 1) (nI n)) := by
  have TT := T
  obtain ⟨h1, h2, h3, h4, h5, h6⟩ := T
  have hx : upd c n 14 n = 14 := pk_us
  obtain ⟨q', a', b', e', g'⟩ := lm_top TT ho
  have eq : q' = q := by
    rw [hw] at b'
    exact ((nI_eq (by omega) (by omega)).mp b').symm
  subst eq
  have htop : ∀ p, p < n → (c p = 13 ∨ c p = 14) → lm_S c p n = (0, 0) → p = q' := by
    intro p hp hcp e
    have H := ((h6 p hp hcp 0 0 e).2 rfl).2.2
    have : op - 1 - 0 = op - 1 := by omega
    rw [this, hw] at H
    exact ((nI_eq (by omega) (by omega)).mp H).symm
  have hs : ∀ p, p < n → (c p = 13 ∨ c p = 14) → ∀ f d, lm_S c p n = (f, d) → lm_S (upd c n 14) p (n + 1) = if f = 0 ∧ d = 0 then (n + 1, 0) else (f, d) := by
    intro p hp hcp f d e
    rw [lm_SE hp, e]
    by_cases hf : f = 0
    · subst hf
      by_cases hd : d = 0
      · subst hd
        rw [if_pos ⟨rfl, rfl⟩]
        have ep := htop p hp hcp e
        have ot : lm_o c p = true := by unfold lm_o; rw [ep, hc]; rfl
        rw [ot]
        exact lm_stE0 hx
      · rw [if_neg (fun z => hd z.2)]
        exact lm_stEn hx (Or.inl hd)
    · rw [if_neg (fun z => hf z.1)]
      exact lm_stF hf
  refine ⟨by omega, h2, ?_, lm_code (j := 14) (by omega) h4, ?_, ?_⟩
  · show (if upd c n 14 n = 13 then _ else if upd c n 14 n = 15 then _ else lm_cn (upd c n 14) n) = nI op
    rw [if_neg (by rw [hx]; exact lm_d4), if_neg (by rw [hx]; exact lm_d3), lm_cnU, h3]
  · intro i hi
    by_cases ei : i = op - 1
    · refine ⟨n, by omega, by rw [ei, pk_us], Or.inr hx, ?_⟩
      rw [lm_SN, ei]
      have : op - 1 - (op - 1) = 0 := by omega
      rw [this]
    · obtain ⟨p, a, b, e, g⟩ := h5 i (by omega)
      refine ⟨p, by omega, by rw [pk_un ei]; exact b, by rw [lm_uL a]; exact e, ?_⟩
      rw [hs p a e _ _ g, if_neg (by omega)]
  · intro p hp hcp f d e
    by_cases ep : p = n
    · subst ep
      rw [lm_SN] at e
      have e1 : f = 0 := (congrArg Prod.fst e).symm
      have e2 : d = 0 := (congrArg Prod.snd e).symm
      subst e1 e2
      refine ⟨fun z => absurd rfl z, fun _ => ⟨?_, by omega, ?_⟩⟩
      · rw [pk_un (by omega), pk_us]
      · have : op - 1 - 0 = op - 1 := by omega
        rw [this, pk_us]
    · have hp' : p < n := by omega
      rw [lm_uL hp'] at hcp
      rcases hqq : lm_S c p n with ⟨f', d'⟩
      rw [hs p hp' hcp f' d' hqq] at e
      have H := h6 p hp' hcp f' d' hqq
      by_cases hf : f' = 0
      · subst hf
        by_cases hd : d' = 0
        · subst hd
          rw [if_pos ⟨rfl, rfl⟩] at e
          have e1 : f = n + 1 := (congrArg Prod.fst e).symm
          subst e1
          have ep2 := htop p hp' hcp hqq
          rw [ep2]
          exact ⟨fun _ => pk_us, fun z => absurd z (Nat.succ_ne_zero n)⟩
        · rw [if_neg (fun z => hd z.2)] at e
          have e1 : f = 0 := (congrArg Prod.fst e).symm
          have e2 : d = d' := (congrArg Prod.snd e).symm
          subst e1 e2
          obtain ⟨q1, q2, q3⟩ := H.2 rfl
          have np : p ≠ q' := by
            intro z
            rw [z, g'] at hqq
            exact hd (congrArg Prod.snd hqq).symm
          refine ⟨fun z => absurd rfl z, fun _ => ⟨?_, q2, ?_⟩⟩
          · rw [pk_un np, lm_uL hp']; exact q1
          · rw [pk_un (by omega)]; exact q3
      · rw [if_neg (fun z => hf z.1)] at e
        have e1 : f = f' := (congrArg Prod.fst e).symm
        subst e1
        have np : p ≠ q' := by
          intro z
          rw [z, g'] at hqq
          exact hf (congrArg Prod.fst hqq).symm
        exact ⟨fun _ => by rw [pk_un np, lm_uL hp']; exact H.1 hf, fun z => absurd z hf⟩
theorem lm_tieD {n op q : Nat} {c t w : Nat → Int32} (T : lm_Tie n op c t w) (hn : n < 40) (ho : 0 < op) (hw : w (op - 1) = nI q) (hq : q < n) : lm_Tie (n + 1) (op - 1) (upd c n 15) (upd (upd t n 40) q (nI (n + 1))) w := by
  have TT := T
  obtain ⟨h1, h2, h3, h4, h5, h6⟩ := T
  have hx : upd c n 15 n = 15 := pk_us
  obtain ⟨q', a', b', e', g'⟩ := lm_top TT ho
  have eq : q' = q := by
    rw [hw] at b'
    exact ((nI_eq (by omega) (by omega)).mp b').symm
  subst eq
  have htop : ∀ p, p < n → (c p = 13 ∨ c p = 14) → lm_S c p n = (0, 0) → p = q' := by
    intro p hp hcp e
    have H := ((h6 p hp hcp 0 0 e).2 rfl).2.2
    have : op - 1 - 0 = op - 1 := by omega
    rw [this, hw] at H
    exact ((nI_eq (by omega) (by omega)).mp H).symm
  have hs : ∀ p, p < n → ∀ f d, lm_S c p n = (f, d) → lm_S (upd c n 15) p (n + 1) = if f = 0 then (if d = 0 then (n + 1, 0) else (0, d - 1)) else (f, d) := by
    intro p hp f d e
    rw [lm_SE hp, e]
    by_cases hf : f = 0
    · subst hf
      rw [if_pos rfl]
      by_cases hd : d = 0
      · subst hd
        rw [if_pos rfl]
        exact lm_stD0 hx
      · rw [if_neg hd]
        obtain ⟨d2, rfl⟩ : ∃ d2, d = d2 + 1 := ⟨d - 1, by omega⟩
        rw [lm_stD hx]
        rfl
    · rw [if_neg hf]
      exact lm_stF hf
  refine ⟨by omega, by omega, ?_, lm_code (j := 15) (by omega) h4, ?_, ?_⟩
  · show (if upd c n 15 n = 13 then _ else if upd c n 15 n = 15 then lm_cn (upd c n 15) n + (-1) else _) = nI (op - 1)
    rw [if_neg (by rw [hx]; exact lm_d5), if_pos hx, lm_cnU, h3]
    obtain ⟨o2, rfl⟩ : ∃ o2, op = o2 + 1 := ⟨op - 1, by omega⟩
    exact pk_m1 o2
  · intro i hi
    obtain ⟨p, a, b, e, g⟩ := h5 i (by omega)
    refine ⟨p, by omega, b, by rw [lm_uL a]; exact e, ?_⟩
    rw [hs p a _ _ g, if_pos rfl, if_neg (by omega)]
    have : op - 1 - i - 1 = op - 1 - 1 - i := by omega
    rw [this]
  · intro p hp hcp f d e
    by_cases ep : p = n
    · subst ep
      rw [hx] at hcp
      rcases hcp with z | z
      · exact absurd z lm_d5
      · exact absurd z lm_d6
    · have hp' : p < n := by omega
      rw [lm_uL hp'] at hcp
      rcases hqq : lm_S c p n with ⟨f', d'⟩
      rw [hs p hp' f' d' hqq] at e
      have H := h6 p hp' hcp f' d' hqq
      by_cases hf : f' = 0
      · subst hf
        rw [if_pos rfl] at e
        by_cases hd : d' = 0
        · subst hd
          rw [if_pos rfl] at e
          have e1 : f = n + 1 := (congrArg Prod.fst e).symm
          subst e1
          have ep2 := htop p hp' hcp hqq
          rw [ep2]
          exact ⟨fun _ => pk_us, fun z => absurd z (Nat.succ_ne_zero n)⟩
        · rw [if_neg hd] at e
          have e1 : f = 0 := (congrArg Prod.fst e).symm
          have e2 : d = d' - 1 := (congrArg Prod.snd e).symm
          subst e1 e2
          obtain ⟨q1, q2, q3⟩ := H.2 rfl
          have np : p ≠ q' := by
            intro z
            rw [z, g'] at hqq
            exact hd (congrArg Prod.snd hqq).symm
          refine ⟨fun z => absurd rfl z, fun _ => ⟨?_, by omega, ?_⟩⟩
          · rw [pk_un np, lm_uL hp']; exact q1
          · have : op - 1 - 1 - (d' - 1) = op - 1 - d' := by omega
            rw [this]
            exact q3
      · rw [if_neg hf] at e
        have e1 : f = f' := (congrArg Prod.fst e).symm
        subst e1
        have np : p ≠ q' := by
          intro z
          rw [z, g'] at hqq
          exact hf (congrArg Prod.fst hqq).symm
        exact ⟨fun _ => by rw [pk_un np, lm_uL hp']; exact H.1 hf, fun z => absurd z hf⟩
end
section
/-! the depth of the forward scan, read backward, and where a jump leads -/
theorem lm_back {c : Nat → Int32} {p n : Nat} (h : lm_S c p n = (0, 0)) {m : Nat} (hm : m ≤ n) : (lm_S c p m).1 = 0 := by
  apply lm_skM (n - m)
  have e : m + (n - m) = n := by omega
  rw [e]
  exact congrArg Prod.fst h
/-- the depth ahead of statement m -/
def lm_D (c : Nat → Int32) (p m : Nat) : Nat := (lm_S c p m).2
theorem lm_SD {c : Nat → Int32} {p n : Nat} (h : lm_S c p n = (0, 0)) {m : Nat} (hm : m ≤ n) : lm_S c p m = (0, lm_D c p m) := Prod.ext (lm_back h hm) rfl
theorem lm_SS {c : Nat → Int32} {p q : Nat} (hp : p < q) : lm_S c p (q + 1) = lm_step c (lm_o c p) q (lm_S c p q) := lm_skS hp
theorem lm_D0 {c : Nat → Int32} {p : Nat} : lm_D c p (p + 1) = 0 := congrArg Prod.snd lm_SN
theorem lm_D13 {c : Nat → Int32} {p q n : Nat} (h : lm_S c p n = (0, 0)) (hp : p < q) (hq : q < n) (e : c q = 13) : lm_D c p (q + 1) = lm_D c p q + 1 := by
  have a := lm_SS (c := c) hp
  rw [lm_SD h (m := q) (by omega), lm_stI e] at a
  exact congrArg Prod.snd a
theorem lm_D15 {c : Nat → Int32} {p q n : Nat} (h : lm_S c p n = (0, 0)) (hp : p < q) (hq : q < n) (e : c q = 15) : lm_D c p q = lm_D c p (q + 1) + 1 := by
  have a := lm_SS (c := c) hp
  have b := lm_back h (m := q + 1) (by omega)
  rw [lm_SD h (m := q) (by omega)] at a
  rcases hd : lm_D c p q with _ | d
  · rw [hd, lm_stD0 e] at a
    rw [a] at b
    exact absurd b (Nat.succ_ne_zero q)
  · rw [hd, lm_stD e] at a
    have : lm_D c p (q + 1) = d := congrArg Prod.snd a
    rw [this]
theorem lm_D14 {c : Nat → Int32} {p q n : Nat} (h : lm_S c p n = (0, 0)) (hp : p < q) (hq : q < n) (e : c q = 14) : lm_D c p (q + 1) = lm_D c p q ∧ (c p = 13 → lm_D c p q ≠ 0) := by
  have a := lm_SS (c := c) hp
  have b := lm_back h (m := q + 1) (by omega)
  rw [lm_SD h (m := q) (by omega)] at a
  by_cases ho : c p = 13
  · have ot : lm_o c p = true := by unfold lm_o; rw [ho]; rfl
    by_cases hd : lm_D c p q = 0
    · rw [hd, ot, lm_stE0 e] at a
      rw [a] at b
      exact absurd b (Nat.succ_ne_zero q)
    · rw [lm_stEn e (Or.inl hd)] at a
      exact ⟨(congrArg Prod.snd a : (lm_S c p (q + 1)).2 = ((0, lm_D c p q) : Nat × Nat).2), fun _ => hd⟩
  · have ot : lm_o c p = false := by unfold lm_o; exact decide_eq_false ho
    rw [lm_stEn e (Or.inr ot)] at a
    exact ⟨(congrArg Prod.snd a : (lm_S c p (q + 1)).2 = ((0, lm_D c p q) : Nat × Nat).2), fun z => absurd z ho⟩
theorem lm_DO {c : Nat → Int32} {p q n : Nat} (h : lm_S c p n = (0, 0)) (hp : p < q) (hq : q < n) (h1 : c q ≠ 13) (h2 : c q ≠ 14) (h3 : c q ≠ 15) : lm_D c p (q + 1) = lm_D c p q := by
  have a := lm_SS (c := c) hp
  rw [lm_SD h (m := q) (by omega), lm_stO h1 h2 h3] at a
  exact (congrArg Prod.snd a : (lm_S c p (q + 1)).2 = ((0, lm_D c p q) : Nat × Nat).2)
theorem lm_skle {c : Nat → Int32} {o : Bool} {p : Nat} : ∀ m : Nat, (lm_sk c o p m).2 ≤ m
  | 0 => Nat.le_refl 0
  | m + 1 => by
    by_cases h : m ≤ p
    · simp only [lm_sk, if_pos h]; omega
    · rw [lm_skS (by omega)]
      have ih := lm_skle (c := c) (o := o) (p := p) m
      revert ih
      generalize lm_sk c o p m = s
      intro ih
      unfold lm_step
      split
      · omega
      · split
        · show 0 ≤ m + 1
          omega
        · split
          · show s.2 + 1 ≤ m + 1
            omega
          · split
            · show s.2 - 1 ≤ m + 1
              omega
            · show s.2 ≤ m + 1
              omega
theorem lm_Dle {c : Nat → Int32} {p m : Nat} : lm_D c p m ≤ m := lm_skle m
/-- where the program goes on behind the part of p -/
def lm_B (c : Nat → Int32) (n p : Nat) : Nat := if (lm_S c p n).1 = 0 then n else (lm_S c p n).1
theorem lm_Ble {c : Nat → Int32} {n p : Nat} : lm_B c n p ≤ n := by
  unfold lm_B
  rcases lm_skB (c := c) (o := lm_o c p) (p := p) n with h | h
  · rw [if_pos (show (lm_S c p n).1 = 0 from h)]; exact Nat.le_refl n
  · have h' : p + 1 < (lm_S c p n).1 ∧ (lm_S c p n).1 ≤ n := h
    rw [if_neg (by omega)]
    exact h'.2
theorem lm_Bgt {c : Nat → Int32} {n p : Nat} (hp : p < n) : p < lm_B c n p := by
  unfold lm_B
  rcases lm_skB (c := c) (o := lm_o c p) (p := p) n with h | h
  · rw [if_pos (show (lm_S c p n).1 = 0 from h)]; exact hp
  · have h' : p + 1 < (lm_S c p n).1 ∧ (lm_S c p n).1 ≤ n := h
    rw [if_neg (by omega)]
    omega
/-- X's targets against lm_B -/
theorem lm_tgt {n op : Nat} {c t w : Nat → Int32} (T : lm_Tie n op c t w) {p : Nat} (hp : p < n) (hc : c p = 13 ∨ c p = 14) : ∃ k : Nat, k ≤ 40 ∧ t p = nI k ∧ (k = lm_B c n p ∨ (lm_B c n p = n ∧ n ≤ k)) := by
  obtain ⟨h1, h2, h3, h4, h5, h6⟩ := T
  rcases hs : lm_S c p n with ⟨f, d⟩
  have H := h6 p hp hc f d hs
  have hB : lm_B c n p = if f = 0 then n else f := by unfold lm_B; rw [hs]
  by_cases hf : f = 0
  · rw [if_pos hf] at hB
    exact ⟨40, by omega, (H.2 hf).1, Or.inr ⟨hB, h1⟩⟩
  · rw [if_neg hf] at hB
    have := lm_Ble (c := c) (n := n) (p := p)
    exact ⟨f, by omega, H.1 hf, Or.inl hB.symm⟩
end
section
/-! the run of the program for one secret, as a pure fold over the statements -/
def lm_cp (c x y b : Int32) : Int32 :=
  if c = 0 then b else if c = 1 then y else if c = 2 then x + y else if c = 3 then x - y else if c = 4 then x * y
  else if c = 5 then x &&& y else if c = 6 then x ||| y else if c = 7 then x ^^^ y
  else if c = 8 then x <<< ((b &&& 7) &&& 31) else if c = 9 then x >>> ((b &&& 7) &&& 31)
  else if c = 10 then (if x < y then 1 else 0) else if c = 11 then (if x = y then 1 else 0) else x
def lm_wk (c x y b : Int32) : Int32 := lm_cp c x y b &&& 255
/-- the index of a variable -/
def lm_ix (x : Int32) : Nat := (x &&& 3).toNatClampNeg
theorem lm_ix_lt (x : Int32) : lm_ix x < 4 := by
  obtain ⟨j, hj, e⟩ := pk_andE x (m := 3) 2 (by decide)
  unfold lm_ix
  rw [e, nI_clamp (by omega)]
  exact hj
theorem lm_ix_eq (x : Int32) : x &&& 3 = nI (lm_ix x) := by
  obtain ⟨j, hj, e⟩ := pk_andE x (m := 3) 2 (by decide)
  unfold lm_ix
  rw [e, nI_clamp (by omega)]
/-- next, variables, number of outputs, outputs -/
abbrev lm_T : Type := Nat × (Nat → Int32) × Nat × (Nat → Int32)
def lm_ex (c l r : Nat → Int32) (n m : Nat) (s : lm_T) : lm_T :=
  if c m = 12 then (m + 1, s.2.1, if s.2.2.1 < 7 then s.2.2.1 + 1 else s.2.2.1, if s.2.2.1 < 7 then upd s.2.2.2 s.2.2.1 (s.2.1 (lm_ix (l m))) else s.2.2.2)
  else if c m = 13 then (if s.2.1 (lm_ix (l m)) = 0 then lm_B c n m else m + 1, s.2.1, s.2.2.1, s.2.2.2)
  else if c m = 14 then (lm_B c n m, s.2.1, s.2.2.1, s.2.2.2)
  else if c m = 15 then (m + 1, s.2.1, s.2.2.1, s.2.2.2)
  else (m + 1, upd s.2.1 (lm_ix (l m)) (lm_wk (c m) (s.2.1 (lm_ix (l m))) (s.2.1 (lm_ix (r m))) (r m)), s.2.2.1, s.2.2.2)
def lm_P (c l r : Nat → Int32) (n q : Nat) : Nat → lm_T
  | 0 => (0, fun j => if j = 0 then nI q else 0, 0, fun _ => 0)
  | m + 1 => if m < (lm_P c l r n q m).1 then lm_P c l r n q m else lm_ex c l r n m (lm_P c l r n q m)
theorem lm_PS {c l r : Nat → Int32} {n q m : Nat} (h : (lm_P c l r n q m).1 ≤ m) : lm_P c l r n q (m + 1) = lm_ex c l r n m (lm_P c l r n q m) := if_neg (by omega)
theorem lm_PK {c l r : Nat → Int32} {n q m : Nat} (h : m < (lm_P c l r n q m).1) : lm_P c l r n q (m + 1) = lm_P c l r n q m := if_pos h
theorem lm_skip {c l r : Nat → Int32} {n q m : Nat} : ∀ d : Nat, m + d ≤ (lm_P c l r n q m).1 → lm_P c l r n q (m + d) = lm_P c l r n q m
  | 0, _ => rfl
  | d + 1, h => by
    have e := lm_skip (c := c) (l := l) (r := r) (n := n) (q := q) (m := m) d (by omega)
    have : lm_P c l r n q (m + d + 1) = lm_P c l r n q (m + d) := lm_PK (by rw [e]; omega)
    rw [show m + (d + 1) = m + d + 1 from rfl, this, e]
theorem lm_wk_b (c x y b : Int32) : ∃ v : Nat, v < 256 ∧ lm_wk c x y b = nI v := pk_andE _ (m := 255) 8 (by decide)
/-- all values are bytes, at most seven outputs, and the next place is within -/
def lm_ok (n m : Nat) (s : lm_T) : Prop := (∀ j, ∃ v : Nat, v < 256 ∧ s.2.1 j = nI v) ∧ s.2.2.1 ≤ 7 ∧ s.1 ≤ n
theorem lm_exOk {c l r : Nat → Int32} {n m : Nat} {s : lm_T} (hm : m < n) (h : lm_ok n m s) : lm_ok n (m + 1) (lm_ex c l r n m s) := by
  obtain ⟨h1, h2, h3⟩ := h
  unfold lm_ex
  split
  · refine ⟨h1, ?_, hm⟩
    show (if s.2.2.1 < 7 then s.2.2.1 + 1 else s.2.2.1) ≤ 7
    split <;> omega
  · split
    · refine ⟨h1, h2, ?_⟩
      show (if s.2.1 (lm_ix (l m)) = 0 then lm_B c n m else m + 1) ≤ n
      split
      · exact lm_Ble
      · exact hm
    · split
      · exact ⟨h1, h2, lm_Ble⟩
      · split
        · exact ⟨h1, h2, hm⟩
        · refine ⟨?_, h2, hm⟩
          intro j
          show ∃ v : Nat, v < 256 ∧ upd s.2.1 _ _ j = nI v
          by_cases e : j = lm_ix (l m)
          · rw [e, pk_us]
            exact lm_wk_b _ _ _ _
          · rw [pk_un e]
            exact h1 j
theorem lm_POk {c l r : Nat → Int32} {n q : Nat} (hq : q < 64) : ∀ m : Nat, m ≤ n → lm_ok n m (lm_P c l r n q m)
  | 0, _ => by
    refine ⟨fun j => ?_, by show 0 ≤ 7; omega, Nat.zero_le n⟩
    show ∃ v : Nat, v < 256 ∧ (if j = 0 then nI q else 0) = nI v
    split
    · exact ⟨q, by omega, rfl⟩
    · exact ⟨0, by omega, nI_0.symm⟩
  | m + 1, h => by
    have ih := lm_POk (c := c) (l := l) (r := r) (n := n) hq m (by omega)
    by_cases e : m < (lm_P c l r n q m).1
    · rw [lm_PK e]; exact ih
    · rw [lm_PS (by omega)]; exact lm_exOk (by omega) ih
theorem lm_exGt {c l r : Nat → Int32} {n m : Nat} {s : lm_T} (hm : m < n) : m < (lm_ex c l r n m s).1 := by
  unfold lm_ex
  split
  · exact Nat.lt_succ_self m
  · split
    · show m < (if s.2.1 (lm_ix (l m)) = 0 then lm_B c n m else m + 1)
      split
      · exact lm_Bgt hm
      · exact Nat.lt_succ_self m
    · split
      · exact lm_Bgt hm
      · split
        · exact Nat.lt_succ_self m
        · exact Nat.lt_succ_self m
/-- the view of secret q: its length and its values; the variables at the end -/
def lm_K (c l r : Nat → Int32) (n q : Nat) : Nat := (lm_P c l r n q n).2.2.1
def lm_G (c l r : Nat → Int32) (n q : Nat) : Nat → Int32 := (lm_P c l r n q n).2.2.2
def lm_V (c l r : Nat → Int32) (n q : Nat) : Nat → Int32 := (lm_P c l r n q n).2.1
theorem lm_K7 {c l r : Nat → Int32} {n q : Nat} (hq : q < 64) : lm_K c l r n q ≤ 7 := (lm_POk hq n (Nat.le_refl n)).2.1
/-- a view as it lies in two arrays -/
def lm_Vw (vv vl : Nat → Int32) (q k : Nat) (g : Nat → Int32) : Prop := vl q = nI k ∧ ∀ j, j < k → vv (7 * q + j) = g j
/-- the same view -/
def lm_sv (K : Nat → Nat) (G : Nat → Nat → Int32) (s t : Nat) : Prop := K s = K t ∧ ∀ j, j < K s → G s j = G t j
theorem lm_svR {K : Nat → Nat} {G : Nat → Nat → Int32} (s : Nat) : lm_sv K G s s := ⟨rfl, fun _ _ => rfl⟩
theorem lm_svS {K : Nat → Nat} {G : Nat → Nat → Int32} {s t : Nat} (h : lm_sv K G s t) : lm_sv K G t s := ⟨h.1.symm, fun j hj => (h.2 j (by rw [h.1]; exact hj)).symm⟩
theorem lm_svT {K : Nat → Nat} {G : Nat → Nat → Int32} {s t u : Nat} (h : lm_sv K G s t) (h2 : lm_sv K G t u) : lm_sv K G s u := ⟨h.1.trans h2.1, fun j hj => (h.2 j hj).trans (h2.2 j (by rw [← h.1]; exact hj))⟩
/-- the least with the same view -/
def lm_Ls (K : Nat → Nat) (G : Nat → Nat → Int32) (s x : Nat) : Prop := x ≤ s ∧ lm_sv K G x s ∧ ∀ t, t < x → ¬ lm_sv K G t s
theorem lm_LsI {K : Nat → Nat} {G : Nat → Nat → Int32} {s t x y : Nat} (h1 : lm_Ls K G s x) (h2 : lm_Ls K G t y) : x = y ↔ lm_sv K G s t := by
  constructor
  · intro e
    rw [e] at h1
    exact lm_svT (lm_svS h1.2.1) h2.2.1
  · intro e
    rcases Nat.lt_trichotomy x y with h | h | h
    · exact absurd (lm_svT h1.2.1 e) (h2.2.2 x h)
    · exact h
    · exact absurd (lm_svT h2.2.1 (lm_svS e)) (h1.2.2 y h)
end
section
/-! the reference's way to reckon a value, against lm_wk -/
theorem lm_b255 : (255 : Int32).toBitVec.toNat = 2 ^ 8 - 1 := by decide
theorem lm_m256 {n : Nat} (h : n < 2 ^ 31) : nI n - nI n / 256 * 256 = nI n &&& 255 := by
  have h1 : nI n - nI n / nI 256 * nI 256 = nI (n % 256) := pk_rem h (by decide) (by decide)
  have h2 : nI n &&& 255 = nI (n % 2 ^ 8) := pk_andN (by omega) 8 lm_b255
  rw [h2]
  exact h1
theorem lm_id {a : Nat} (h : a < 256) : nI a &&& 255 = nI a := by
  have h2 : nI a &&& 255 = nI (a % 2 ^ 8) := pk_andN (by omega) 8 lm_b255
  rw [h2]
  exact congrArg nI (Nat.mod_eq_of_lt h)
theorem lm_cp0 (x y b : Int32) : lm_cp 0 x y b = b := rfl
theorem lm_cp1 (x y b : Int32) : lm_cp 1 x y b = y := rfl
theorem lm_cp2 (x y b : Int32) : lm_cp 2 x y b = x + y := rfl
theorem lm_cp3 (x y b : Int32) : lm_cp 3 x y b = x - y := rfl
theorem lm_cp4 (x y b : Int32) : lm_cp 4 x y b = x * y := rfl
theorem lm_cp5 (x y b : Int32) : lm_cp 5 x y b = x &&& y := rfl
theorem lm_cp6 (x y b : Int32) : lm_cp 6 x y b = x ||| y := rfl
theorem lm_cp7 (x y b : Int32) : lm_cp 7 x y b = x ^^^ y := rfl
theorem lm_cp8 (x y b : Int32) : lm_cp 8 x y b = x <<< ((b &&& 7) &&& 31) := rfl
theorem lm_cp9 (x y b : Int32) : lm_cp 9 x y b = x >>> ((b &&& 7) &&& 31) := rfl
theorem lm_cp10 (x y b : Int32) : lm_cp 10 x y b = if x < y then 1 else 0 := rfl
theorem lm_cp11 (x y b : Int32) : lm_cp 11 x y b = if x = y then 1 else 0 := rfl
theorem lm_wk0 (x y b : Int32) : b &&& 255 = lm_wk 0 x y b := rfl
theorem lm_wk1 {e : Nat} (he : e < 256) (x b : Int32) : nI e = lm_wk 1 x (nI e) b := by
  unfold lm_wk
  rw [lm_cp1, lm_id he]
theorem lm_wk2 {a e : Nat} (ha : a < 256) (he : e < 256) (b : Int32) : (nI a + nI e) - (nI a + nI e) / 256 * 256 = lm_wk 2 (nI a) (nI e) b := by
  unfold lm_wk
  rw [lm_cp2, nI_add, lm_m256 (by omega)]
theorem lm_wk3 {a e : Nat} (ha : a < 256) (he : e < 256) (b : Int32) : (nI a - nI e + 256) - (nI a - nI e + 256) / 256 * 256 = lm_wk 3 (nI a) (nI e) b := by
  unfold lm_wk
  have h1 : nI a - nI e + 256 = nI (a + 256 - e) := by
    rw [← pk_sub (a := a + 256) (b := e) (by omega), ← nI_add]
    show nI a - nI e + nI 256 = nI a + nI 256 - nI e
    generalize nI a = x
    generalize nI e = y
    generalize nI 256 = z
    grind
  have h2 : (nI a - nI e).toBitVec.toNat = (2 ^ 32 - e + a) % 2 ^ 32 := by
    rw [Int32.toBitVec_sub, BitVec.toNat_sub, pk_tn (n := a) (by omega), pk_tn (n := e) (by omega)]
  have h3 : (nI a - nI e) &&& 255 = nI ((nI a - nI e).toBitVec.toNat % 2 ^ 8) := pk_and _ 8 lm_b255
  have h4 : nI (a + 256 - e) &&& 255 = nI ((a + 256 - e) % 2 ^ 8) := pk_andN (by omega) 8 lm_b255
  rw [lm_cp3, h1, lm_m256 (by omega), h3, h4, h2]
  exact congrArg nI (by omega)
theorem lm_wk4 {a e : Nat} (ha : a < 256) (he : e < 256) (b : Int32) : nI a * nI e - nI a * nI e / 256 * 256 = lm_wk 4 (nI a) (nI e) b := by
  have h : a * e ≤ 255 * 255 := Nat.mul_le_mul (by omega) (by omega)
  unfold lm_wk
  rw [lm_cp4, pk_mul, lm_m256 (by omega)]
theorem lm_wk5 {a e : Nat} (ha : a < 256) (he : e < 256) (b : Int32) : nI a &&& nI e = lm_wk 5 (nI a) (nI e) b := by
  unfold lm_wk
  rw [lm_cp5, Int32.and_assoc, lm_id he]
theorem lm_lt32 (x : Nat) : x % 2 ^ 8 < 2 ^ 32 := Nat.lt_of_lt_of_le (Nat.mod_lt x (by decide)) (by decide)
theorem lm_small (x : Int32) (h : x.toBitVec.toNat < 2 ^ 8) : x &&& 255 = x := by
  have h3 : x &&& 255 = nI (x.toBitVec.toNat % 2 ^ 8) := pk_and _ 8 lm_b255
  rw [h3, Nat.mod_eq_of_lt h]
  apply Int32.toBitVec_inj.mp
  apply BitVec.eq_of_toNat_eq
  rw [pk_tn (Nat.lt_trans h (by decide))]
theorem lm_wk6 {a e : Nat} (ha : a < 256) (he : e < 256) (b : Int32) : nI a ||| nI e = lm_wk 6 (nI a) (nI e) b := by
  unfold lm_wk
  rw [lm_cp6, lm_small]
  rw [Int32.toBitVec_or, BitVec.toNat_or, pk_tn (n := a) (by omega), pk_tn (n := e) (by omega)]
  exact Nat.or_lt_two_pow (n := 8) ha he
theorem lm_wk7 {a e : Nat} (ha : a < 256) (he : e < 256) (b : Int32) : nI a ^^^ nI e = lm_wk 7 (nI a) (nI e) b := by
  unfold lm_wk
  rw [lm_cp7, lm_small]
  rw [Int32.toBitVec_xor, BitVec.toNat_xor, pk_tn (n := a) (by omega), pk_tn (n := e) (by omega)]
  exact Nat.xor_lt_two_pow (n := 8) ha he
theorem lm_shc : ∀ k, k < 8 → ((nI k &&& 31).toBitVec.smod 32).toNat = k := by decide +kernel
theorem lm_pw : ∀ k, k < 8 → 1 ≤ 2 ^ k ∧ 2 ^ k ≤ 128 := by decide
theorem lm_wk8 {a k : Nat} (ha : a < 256) (hk : k < 8) (y b : Int32) (hb : b &&& 7 = nI k) : nI a * nI (2 ^ k) - nI a * nI (2 ^ k) / 256 * 256 = lm_wk 8 (nI a) y b := by
  have hp := lm_pw k hk
  have h : a * 2 ^ k ≤ 255 * 128 := Nat.mul_le_mul (by omega) hp.2
  unfold lm_wk
  rw [lm_cp8, hb, pk_mul, lm_m256 (by omega), pk_shlN _ k (lm_shc k hk) (by omega)]
theorem lm_wk9 {a k : Nat} (ha : a < 256) (hk : k < 8) (y b : Int32) (hb : b &&& 7 = nI k) : nI a / nI (2 ^ k) = lm_wk 9 (nI a) y b := by
  have hp := lm_pw k hk
  have h : a / 2 ^ k ≤ a := Nat.div_le_self _ _
  unfold lm_wk
  rw [lm_cp9, hb, pk_shrN (by omega) _ k (lm_shc k hk), lm_id (by omega)]
  exact pk_div (by omega) (by omega) (by omega)
theorem lm_wk10t {x y : Int32} (b : Int32) (h : x < y) : (1 : Int32) = lm_wk 10 x y b := by
  unfold lm_wk
  rw [lm_cp10, if_pos h]
  rfl
theorem lm_wk10f {x y : Int32} (b : Int32) (h : ¬ x < y) : (0 : Int32) = lm_wk 10 x y b := by
  unfold lm_wk
  rw [lm_cp10, if_neg h]
  rfl
theorem lm_wk11t {x y : Int32} (b : Int32) (h : x = y) : (1 : Int32) = lm_wk 11 x y b := by
  unfold lm_wk
  rw [lm_cp11, if_pos h]
  rfl
theorem lm_wk11f {x y : Int32} (b : Int32) (h : ¬ x = y) : (0 : Int32) = lm_wk 11 x y b := by
  unfold lm_wk
  rw [lm_cp11, if_neg h]
  rfl
end
section
/-! one step of the fold, case by case; the layouts in memory -/
section
variable {c l r : Nat → Int32} {n q m nx k : Nat} {v g : Nat → Int32}
theorem lm_P12a (hP : lm_P c l r n q m = (nx, v, k, g)) (hn : nx ≤ m) (h : c m = 12) (hk : k < 7) : lm_P c l r n q (m + 1) = (m + 1, v, k + 1, upd g k (v (lm_ix (l m)))) := by
  rw [lm_PS (by rw [hP]; exact hn), hP]
  unfold lm_ex
  rw [if_pos h]
  show (m + 1, v, (if k < 7 then k + 1 else k), (if k < 7 then upd g k (v (lm_ix (l m))) else g)) = _
  rw [if_pos hk, if_pos hk]
theorem lm_P12b (hP : lm_P c l r n q m = (nx, v, k, g)) (hn : nx ≤ m) (h : c m = 12) (hk : ¬ k < 7) : lm_P c l r n q (m + 1) = (m + 1, v, k, g) := by
  rw [lm_PS (by rw [hP]; exact hn), hP]
  unfold lm_ex
  rw [if_pos h]
  show (m + 1, v, (if k < 7 then k + 1 else k), (if k < 7 then upd g k (v (lm_ix (l m))) else g)) = _
  rw [if_neg hk, if_neg hk]
theorem lm_P13a (hP : lm_P c l r n q m = (nx, v, k, g)) (hn : nx ≤ m) (h : c m = 13) (hx : v (lm_ix (l m)) = 0) : lm_P c l r n q (m + 1) = (lm_B c n m, v, k, g) := by
  rw [lm_PS (by rw [hP]; exact hn), hP]
  unfold lm_ex
  rw [if_neg (by rw [h]; decide), if_pos h]
  show ((if v (lm_ix (l m)) = 0 then lm_B c n m else m + 1), v, k, g) = _
  rw [if_pos hx]
theorem lm_P13b (hP : lm_P c l r n q m = (nx, v, k, g)) (hn : nx ≤ m) (h : c m = 13) (hx : ¬ v (lm_ix (l m)) = 0) : lm_P c l r n q (m + 1) = (m + 1, v, k, g) := by
  rw [lm_PS (by rw [hP]; exact hn), hP]
  unfold lm_ex
  rw [if_neg (by rw [h]; decide), if_pos h]
  show ((if v (lm_ix (l m)) = 0 then lm_B c n m else m + 1), v, k, g) = _
  rw [if_neg hx]
theorem lm_P14 (hP : lm_P c l r n q m = (nx, v, k, g)) (hn : nx ≤ m) (h : c m = 14) : lm_P c l r n q (m + 1) = (lm_B c n m, v, k, g) := by
  rw [lm_PS (by rw [hP]; exact hn), hP]
  unfold lm_ex
  rw [if_neg (by rw [h]; decide), if_neg (by rw [h]; decide), if_pos h]
theorem lm_P15 (hP : lm_P c l r n q m = (nx, v, k, g)) (hn : nx ≤ m) (h : c m = 15) : lm_P c l r n q (m + 1) = (m + 1, v, k, g) := by
  rw [lm_PS (by rw [hP]; exact hn), hP]
  unfold lm_ex
  rw [if_neg (by rw [h]; decide), if_neg (by rw [h]; decide), if_neg (by rw [h]; decide), if_pos h]
theorem lm_PD (hP : lm_P c l r n q m = (nx, v, k, g)) (hn : nx ≤ m) (h1 : c m ≠ 12) (h2 : c m ≠ 13) (h3 : c m ≠ 14) (h4 : c m ≠ 15) : lm_P c l r n q (m + 1) = (m + 1, upd v (lm_ix (l m)) (lm_wk (c m) (v (lm_ix (l m))) (v (lm_ix (r m))) (r m)), k, g) := by
  rw [lm_PS (by rw [hP]; exact hn), hP]
  unfold lm_ex
  rw [if_neg h1, if_neg h2, if_neg h3, if_neg h4]
end
/-- a number as code -/
theorem lm_ne {j i : Nat} (hj : j < 16) (hi : i < 16) (h : j ≠ i) : nI j ≠ nI i := fun z => h ((nI_eq (by omega) (by omega)).mp z)
/-- the frame: what stands for other secrets is kept -/
def lm_Fr (q : Nat) (ev vv vl ev' vv' vl' : Nat → Int32) : Prop := ∀ s, s < 64 → s ≠ q → (∀ j, j < 4 → ev' (4 * s + j) = ev (4 * s + j)) ∧ vl' s = vl s ∧ ∀ j, j < 7 → vv' (7 * s + j) = vv (7 * s + j)
theorem lm_FrR {q : Nat} {ev vv vl : Nat → Int32} : lm_Fr q ev vv vl ev vv vl := fun _ _ _ => ⟨fun _ _ => rfl, rfl, fun _ _ => rfl⟩
theorem lm_FrT {q : Nat} {ev vv vl ev1 vv1 vl1 ev2 vv2 vl2 : Nat → Int32} (h1 : lm_Fr q ev vv vl ev1 vv1 vl1) (h2 : lm_Fr q ev1 vv1 vl1 ev2 vv2 vl2) : lm_Fr q ev vv vl ev2 vv2 vl2 := fun s a b => ⟨fun j hj => ((h2 s a b).1 j hj).trans ((h1 s a b).1 j hj), (h2 s a b).2.1.trans (h1 s a b).2.1, fun j hj => ((h2 s a b).2.2 j hj).trans ((h1 s a b).2.2 j hj)⟩
theorem lm_FrE {q i : Nat} {ev vv vl : Nat → Int32} {x : Int32} (hi : i < 4) : lm_Fr q ev vv vl (upd ev (4 * q + i) x) vv vl := fun s _ hs => ⟨fun j hj => pk_un (by omega), rfl, fun _ _ => rfl⟩
theorem lm_FrV {q i : Nat} {ev vv vl : Nat → Int32} {x : Int32} (hi : i < 7) : lm_Fr q ev vv vl ev (upd vv (7 * q + i) x) vl := fun s _ hs => ⟨fun _ _ => rfl, rfl, fun j hj => pk_un (by omega)⟩
theorem lm_FrL {q : Nat} {ev vv vl : Nat → Int32} {x : Int32} : lm_Fr q ev vv vl ev vv (upd vl q x) := fun s _ hs => ⟨fun _ _ => rfl, pk_un hs, fun _ _ => rfl⟩
/-- four variables from base b on -/
def lm_M (ev : Nat → Int32) (b : Nat) (v : Nat → Int32) : Prop := ∀ j, j < 4 → ev (b + j) = v j
theorem lm_Mu {ev v : Nat → Int32} {b i : Nat} {x : Int32} (h : lm_M ev b v) : lm_M (upd ev (b + i) x) b (upd v i x) := by
  intro j hj
  by_cases e : j = i
  · rw [e, pk_us, pk_us]
  · rw [pk_un (by omega), pk_un e]
    exact h j hj
theorem lm_Vu {vv vl g : Nat → Int32} {q k : Nat} {x : Int32} (h : lm_Vw vv vl q k g) : lm_Vw (upd vv (7 * q + k) x) (upd vl q (nI (k + 1))) q (k + 1) (upd g k x) := by
  refine ⟨pk_us, fun j hj => ?_⟩
  by_cases e : j = k
  · rw [e, pk_us, pk_us]
  · rw [pk_un (by omega), pk_un e]
    exact h.2 j (by omega)
/-- outputs alone -/
def lm_O (vv : Nat → Int32) (q k : Nat) (g : Nat → Int32) : Prop := ∀ j, j < k → vv (7 * q + j) = g j
theorem lm_Ou {vv g : Nat → Int32} {q k : Nat} {x : Int32} (h : lm_O vv q k g) : lm_O (upd vv (7 * q + k) x) q (k + 1) (upd g k x) := by
  intro j hj
  by_cases e : j = k
  · rw [e, pk_us, pk_us]
  · rw [pk_un (by omega), pk_un e]
    exact h j (by omega)
def lm_F7 (q : Nat) (vv vv' : Nat → Int32) : Prop := ∀ s, s < 64 → s ≠ q → ∀ j, j < 7 → vv' (7 * s + j) = vv (7 * s + j)
theorem lm_F7R {q : Nat} {vv : Nat → Int32} : lm_F7 q vv vv := fun _ _ _ _ _ => rfl
theorem lm_F7T {q : Nat} {a b d : Nat → Int32} (h1 : lm_F7 q a b) (h2 : lm_F7 q b d) : lm_F7 q a d := fun s x y j hj => (h2 s x y j hj).trans (h1 s x y j hj)
theorem lm_F7u {q i : Nat} {vv : Nat → Int32} {x : Int32} (hi : i < 7) : lm_F7 q vv (upd vv (7 * q + i) x) := fun s _ hs j hj => pk_un (by omega)
theorem lm_i7 (q j : Nat) : nI q * 7 + nI j = nI (7 * q + j) := by
  show nI q * nI 7 + nI j = _
  rw [pk_mul, nI_add, Nat.mul_comm]
theorem lm_i7' (q j : Nat) : 7 * nI q + nI j = nI (7 * q + j) := by
  show nI 7 * nI q + nI j = _
  rw [pk_mul, nI_add]
theorem lm_i4 (q j : Nat) : nI q * 4 + nI j = nI (4 * q + j) := by
  show nI q * nI 4 + nI j = _
  rw [pk_mul, nI_add, Nat.mul_comm]
theorem lm_i40 (q : Nat) : nI q * 4 = nI (4 * q) := by
  show nI q * nI 4 = _
  rw [pk_mul, Nat.mul_comm]
/-- a secret's number -/
theorem lm_63 (x : Int32) : ∃ q : Nat, q < 64 ∧ x &&& 63 = nI q := pk_andE x (m := 63) 6 (by decide)
/-- the pure picture of all secrets -/
def lm_Pc (c l r : Nat → Int32) (n : Nat) (ev vv vl la : Nat → Int32) : Prop := (∀ s, s < 64 → lm_M ev (4 * s) (lm_V c l r n s) ∧ lm_Vw vv vl s (lm_K c l r n s) (lm_G c l r n s)) ∧ ∀ s, s < 64 → ∃ x : Nat, la s = nI x ∧ lm_Ls (lm_K c l r n) (lm_G c l r n) s x
theorem lm_P0 {c l r : Nat → Int32} {n q : Nat} : lm_P c l r n q 0 = (0, fun j => if j = 0 then nI q else 0, 0, fun _ => 0) := rfl
end
section
/-! X's run of the program for one secret, against lm_P -/
theorem lm_v64 {q : Nat} (h : q < 64) : vp_in (nI q) 64 := vp_in_nI h (by omega)
theorem lm_cl {q : Nat} (h : q < 1000) : (nI q).toNatClampNeg = q := nI_clamp (by omega)
theorem lm_xCp {j : Nat} (hj : j < 12) (x y b : Int32) (post : Int32 → Prop) (h : post (lm_cp (nI j) x y b)) : wpX_computed post (nI j) x y b := by
  unfold wpX_computed
  refine br_f (nI_pos (by omega)) (br_f (nI_nlt (b := j) (a := 11) (by omega) (by omega)) ?_)
  refine br_c (fun z => by rw [z, lm_cp0] at h; exact h) (fun z0 => ?_)
  refine br_c (fun z => by rw [z, lm_cp1] at h; exact h) (fun z1 => ?_)
  refine br_c (fun z => by rw [z, lm_cp2] at h; exact h) (fun z2 => ?_)
  refine br_c (fun z => by rw [z, lm_cp3] at h; exact h) (fun z3 => ?_)
  refine br_c (fun z => by rw [z, lm_cp4] at h; exact h) (fun z4 => ?_)
  refine br_c (fun z => by rw [z, lm_cp5] at h; exact h) (fun z5 => ?_)
  refine br_c (fun z => by rw [z, lm_cp6] at h; exact h) (fun z6 => ?_)
  refine br_c (fun z => by rw [z, lm_cp7] at h; exact h) (fun z7 => ?_)
  refine br_c (fun z => by rw [z, lm_cp8] at h; exact h) (fun z8 => ?_)
  refine br_c (fun z => by rw [z, lm_cp9] at h; exact h) (fun z9 => ?_)
  refine br_c (fun z => ?_) (fun z10 => ?_)
  · rw [z, lm_cp10] at h
    refine br_c (fun g => ?_) (fun g => ?_)
    · rw [if_neg (Int32.not_lt.mpr g)] at h; exact h
    · rw [if_pos (Int32.not_le.mp g)] at h; exact h
  · refine br_c (fun z => ?_) (fun _ => trivial)
    rw [z, lm_cp11] at h
    refine br_c (fun g => ?_) (fun g => ?_)
    · rw [if_pos g] at h; exact h
    · rw [if_neg g] at h; exact h
theorem lm_xPut {f1 f2 x : Int32} {c l r t w ev vv vl la g : Nat → Int32} {q k : Nat} (hq : q < 64) (hk : k ≤ 7) (hV : lm_Vw vv vl q k g) (post : SX → Prop)
    (h1 : k < 7 → post (f1, f2, c, l, r, t, w, ev, upd vv (7 * q + k) x, upd vl q (nI (k + 1)), la)) (h2 : ¬ k < 7 → post (f1, f2, c, l, r, t, w, ev, vv, vl, la)) : wpX_putOut post (f1, f2, c, l, r, t, w, ev, vv, vl, la) (nI q) x := by
  unfold wpX_putOut
  refine ⟨lm_v64 hq, nm_r (e' := nI k) (by rw [lm_cl (by omega)]; exact hV.1) ?_⟩
  refine pk_le 7 k (fun z => h2 (by omega)) (fun z => ?_)
  rw [lm_i7, lm_cl (q := q) (by omega), nI_1, lm_cl (q := 7 * q + k) (by omega)]
  exact ⟨vp_in_nI (by omega) (by omega), nm_e ⟨lm_v64 hq, nm_e (h1 z)⟩⟩
theorem lm_xCar {n op q m nx k : Nat} {c l r t w ev vv vl la v g : Nat → Int32} (T : lm_Tie n op c t w) (hq : q < 64) (hm : m < n) (hP : lm_P c l r n q m = (nx, v, k, g)) (hn : nx ≤ m) (hE : lm_M ev (4 * q) v) (hV : lm_Vw vv vl q k g) (post : Int32 → SX → Prop)
    (h : ∀ (T' nx' : Nat) (v' : Nat → Int32) (k' : Nat) (g' ev' vv' vl' : Nat → Int32), T' ≤ 40 → (T' = nx' ∨ (nx' = n ∧ n ≤ T')) → lm_P c l r n q (m + 1) = (nx', v', k', g') → lm_M ev' (4 * q) v' → lm_Vw vv' vl' q k' g' → lm_Fr q ev vv vl ev' vv' vl' → post (nI T') (nI n, nI op, c, l, r, t, w, ev', vv', vl', la)) :
    wpX_carryOut post (nI n, nI op, c, l, r, t, w, ev, vv, vl, la) (nI q) (nI m) := by
  have h40 : n ≤ 40 := T.1
  obtain ⟨j, hj, ec⟩ := T.2.2.2.1 m hm
  have hk : k ≤ 7 := by
    have z := (lm_POk (c := c) (l := l) (r := r) (n := n) hq m (by omega)).2.1
    rw [hP] at z
    exact z
  have cm : (nI m).toNatClampNeg = m := lm_cl (by omega)
  have vm : vp_in (nI m) 40 := vp_in_nI (by omega) (by omega)
  have hi := lm_ix_lt (l m)
  have hi2 := lm_ix_lt (r m)
  have ci : (nI (4 * q + lm_ix (l m))).toNatClampNeg = 4 * q + lm_ix (l m) := lm_cl (by omega)
  have cj : (nI (4 * q + lm_ix (r m))).toNatClampNeg = 4 * q + lm_ix (r m) := lm_cl (by omega)
  have vi : vp_in (nI (4 * q + lm_ix (l m))) 256 := vp_in_nI (by omega) (by omega)
  unfold wpX_carryOut
  refine nm_r (lm_i40 q) ?_
  refine ⟨vm, nm_r (e' := nI (4 * q + lm_ix (l m))) (by rw [cm, lm_ix_eq (l m), nI_add]) ?_⟩
  refine ⟨vi, nm_r (e' := v (lm_ix (l m))) (by rw [ci]; exact hE _ hi) ?_⟩
  refine ⟨vm, ?_⟩
  rw [cm, nI_1 m]
  have ej : nI (4 * q) + (r m &&& 3) = nI (4 * q + lm_ix (r m)) := by rw [lm_ix_eq (r m), nI_add]
  rw [ej]
  refine ⟨vp_in_nI (by omega) (by omega), nm_r (e' := v (lm_ix (r m))) (by rw [cj]; exact hE _ hi2) ?_⟩
  refine ⟨vm, nm_e ?_⟩
  by_cases hlt : j < 12
  · have a : c m < 12 := by rw [ec]; exact nI_lt (b := 12) hlt (by decide)
    refine br_t a ⟨vm, vm, ?_⟩
    have e1 : c m ≠ 12 := by rw [ec]; exact lm_ne (i := 12) hj (by omega) (by omega)
    have e2 : c m ≠ 13 := by rw [ec]; exact lm_ne (i := 13) hj (by omega) (by omega)
    have e3 : c m ≠ 14 := by rw [ec]; exact lm_ne (i := 14) hj (by omega) (by omega)
    have e4 : c m ≠ 15 := by rw [ec]; exact lm_ne (i := 15) hj (by omega) (by omega)
    have hS := lm_PD hP hn e1 e2 e3 e4
    have hF := h (m + 1) _ _ _ _ _ _ _ (by omega) (Or.inl rfl) hS (lm_Mu hE) hV (lm_FrE hi)
    rw [ec]
    refine lm_xCp hlt _ _ _ _ ⟨vi, nm_r (by rw [ci]) ?_⟩
    rw [ec] at hF
    exact hF
  · have a : ¬ c m < 12 := by rw [ec]; exact nI_nlt (a := j) (b := 12) (by omega) (by omega)
    have a2 : ¬ (15 : Int32) < c m := by rw [ec]; exact nI_nlt (a := 15) (b := j) (by omega) (by omega)
    refine br_f a (br_f a2 ?_)
    by_cases j12 : j = 12
    · have e : c m = 12 := by rw [ec, j12]; rfl
      refine br_t e (lm_xPut hq hk hV _ (fun z => ?_) (fun z => ?_))
      · exact h (m + 1) _ _ _ _ _ _ _ (by omega) (Or.inl rfl) (lm_P12a hP hn e z) hE (lm_Vu hV) (lm_FrT (lm_FrV (by omega)) lm_FrL)
      · exact h (m + 1) _ _ _ _ _ _ _ (by omega) (Or.inl rfl) (lm_P12b hP hn e z) hE hV lm_FrR
    · have e12 : ¬ c m = 12 := by rw [ec]; exact lm_ne (i := 12) hj (by omega) j12
      refine br_f e12 ?_
      by_cases j13 : j = 13
      · have e : c m = 13 := by rw [ec, j13]; rfl
        refine br_t e (br_c (fun z => ⟨vm, ?_⟩) (fun z => ?_))
        · obtain ⟨kk, hk40, et, hor⟩ := lm_tgt T hm (Or.inl e)
          rw [et]
          exact h kk _ _ _ _ _ _ _ hk40 hor (lm_P13a hP hn e z) hE hV lm_FrR
        · exact h (m + 1) _ _ _ _ _ _ _ (by omega) (Or.inl rfl) (lm_P13b hP hn e z) hE hV lm_FrR
      · have e13 : ¬ c m = 13 := by rw [ec]; exact lm_ne (i := 13) hj (by omega) j13
        refine br_f e13 ?_
        by_cases j14 : j = 14
        · have e : c m = 14 := by rw [ec, j14]; rfl
          refine br_t e ⟨vm, ?_⟩
          obtain ⟨kk, hk40, et, hor⟩ := lm_tgt T hm (Or.inr e)
          rw [et]
          exact h kk _ _ _ _ _ _ _ hk40 hor (lm_P14 hP hn e) hE hV lm_FrR
        · have e14 : ¬ c m = 14 := by rw [ec]; exact lm_ne (i := 14) hj (by omega) j14
          have j15 : j = 15 := by omega
          have e : c m = 15 := by rw [ec, j15]; rfl
          exact br_f e14 (br_t e (h (m + 1) _ _ _ _ _ _ _ (by omega) (Or.inl rfl) (lm_P15 hP hn e) hE hV lm_FrR))
theorem lm_xLoop {n op q : Nat} {c l r t w la ev0 vv0 vl0 : Nat → Int32} (T : lm_Tie n op c t w) (hq : q < 64) (post : SX → Prop)
    (hp : ∀ ev vv vl : Nat → Int32, lm_Fr q ev0 vv0 vl0 ev vv vl → lm_M ev (4 * q) (lm_V c l r n q) → lm_Vw vv vl q (lm_K c l r n q) (lm_G c l r n q) → post (nI n, nI op, c, l, r, t, w, ev, vv, vl, la)) :
    ∀ (d m f Tn nx k : Nat) (v g ev vv vl : Nat → Int32), m + d = n → d < f → Tn ≤ 40 → (Tn = nx ∨ (nx = n ∧ n ≤ Tn)) → lm_P c l r n q m = (nx, v, k, g) → lm_M ev (4 * q) v → lm_Vw vv vl q k g → lm_Fr q ev0 vv0 vl0 ev vv vl → wX_runProgram_45 post (nI q) f (nI Tn) (nI m) (nI n) (nI op) c l r t w ev vv vl la := by
  have h40 : n ≤ 40 := T.1
  intro d
  induction d with
  | zero =>
    intro m f Tn nx k v g ev vv vl hm hf hT hor hP hE hV hF
    obtain ⟨f, rfl⟩ : ∃ f', f = f' + 1 := ⟨f - 1, by omega⟩
    have em : m = n := by omega
    subst em
    refine pk_le m m (fun _ => hp ev vv vl hF ?_ ?_) (fun z => absurd z (Nat.lt_irrefl m))
    · unfold lm_V; rw [hP]; exact hE
    · unfold lm_K lm_G; rw [hP]; exact hV
  | succ d ih =>
    intro m f Tn nx k v g ev vv vl hm hf hT hor hP hE hV hF
    obtain ⟨f, rfl⟩ : ∃ f', f = f' + 1 := ⟨f - 1, by omega⟩
    refine pk_le n m (fun z => by omega) (fun _ => pk_lt m Tn (fun z => nm_r (nI_1 m) ?_) (fun z => ?_))
    · refine ih (m + 1) f Tn nx k v g ev vv vl (by omega) (by omega) hT hor ?_ hE hV hF
      rw [lm_PK (by rw [hP]; show m < nx; omega)]
      exact hP
    · refine lm_xCar T hq (by omega) hP (by omega) hE hV _ ?_
      intro T' nx' v' k' g' ev' vv' vl' a1 a2 a3 a4 a5 a6
      exact nm_r (nI_1 m) (ih (m + 1) f T' nx' k' v' g' ev' vv' vl' (by omega) (by omega) a1 a2 a3 a4 a5 (lm_FrT hF a6))
theorem lm_xZero {n op q : Nat} {c l r t w la ev0 vv vl : Nat → Int32} (T : lm_Tie n op c t w) (hq : q < 64) (post : SX → Prop)
    (hp : ∀ ev vv' vl' : Nat → Int32, lm_Fr q ev0 vv vl ev vv' vl' → lm_M ev (4 * q) (lm_V c l r n q) → lm_Vw vv' vl' q (lm_K c l r n q) (lm_G c l r n q) → post (nI n, nI op, c, l, r, t, w, ev, vv', vl', la)) :
    ∀ (d i f : Nat) (ev : Nat → Int32), i + d = 4 → d < f → (∀ j, j < i → ev (4 * q + j) = if j = 0 then nI q else 0) → 0 < i → lm_Fr q ev0 vv vl ev vv vl → wX_runProgram_13 post (nI q) (nI (4 * q)) (nI n) (nI op) f (nI i) c l r t w ev vv vl la := by
  intro d
  induction d with
  | zero =>
    intro i f ev hi hf he h0 hF
    obtain ⟨f, rfl⟩ : ∃ f', f = f' + 1 := ⟨f - 1, by omega⟩
    have ei : i = 4 := by omega
    subst ei
    refine pk_le 4 4 (fun _ => ⟨lm_v64 hq, nm_r (e' := upd vl q 0) (by rw [lm_cl (by omega)]) ⟨n + 1, ?_⟩⟩) (fun z => absurd z (Nat.lt_irrefl 4))
    exact lm_xLoop T hq post hp n 0 (n + 1) 0 0 0 _ _ ev vv (upd vl q 0) (by omega) (by omega) (by omega) (Or.inl rfl) lm_P0 he ⟨pk_us, fun j hj => absurd hj (Nat.not_lt_zero j)⟩ (lm_FrT hF lm_FrL)
  | succ d ih =>
    intro i f ev hi hf he h0 hF
    obtain ⟨f, rfl⟩ : ∃ f', f = f' + 1 := ⟨f - 1, by omega⟩
    have ea : nI (4 * q) + nI i = nI (4 * q + i) := nI_add _ _
    refine pk_le 4 i (fun z => by omega) (fun _ => ?_)
    rw [ea]
    refine ⟨vp_in_nI (by omega) (by omega), nm_r (e' := upd ev (4 * q + i) 0) (by rw [lm_cl (by omega)]) (nm_r (nI_1 i) ?_)⟩
    refine ih (i + 1) f _ (by omega) (by omega) ?_ (by omega) (lm_FrT hF (lm_FrE (by omega)))
    intro j hj
    by_cases e : j = i
    · rw [e, pk_us, if_neg (by omega)]
    · rw [pk_un (by omega)]
      exact he j (by omega)
theorem lm_xRun {n op q : Nat} {c l r t w la ev vv vl : Nat → Int32} (T : lm_Tie n op c t w) (hq : q < 64) (post : SX → Prop)
    (hp : ∀ ev' vv' vl' : Nat → Int32, lm_Fr q ev vv vl ev' vv' vl' → lm_M ev' (4 * q) (lm_V c l r n q) → lm_Vw vv' vl' q (lm_K c l r n q) (lm_G c l r n q) → post (nI n, nI op, c, l, r, t, w, ev', vv', vl', la)) :
    wpX_runProgram post (nI n, nI op, c, l, r, t, w, ev, vv, vl, la) (nI q) := by
  unfold wpX_runProgram
  refine nm_r (lm_i40 q) ⟨vp_in_nI (by omega) (by omega), nm_r (e' := upd ev (4 * q + 0) (nI q)) (by rw [lm_cl (by omega)]; rfl) ⟨4, ?_⟩⟩
  refine lm_xZero T hq post (ev0 := ev) hp 3 1 4 _ (by omega) (by omega) ?_ (by omega) (lm_FrE (by omega))
  intro j hj
  have e : j = 0 := by omega
  rw [e, pk_us, if_pos rfl]
end
section
/-! X's measure: the views are compared, the least of each is kept -/
section
variable {f1 f2 : Int32} {c l r t w ev vv vl la : Nat → Int32} {K : Nat → Nat} {G : Nat → Nat → Int32}
theorem lm_xSameL {a b : Nat} (ha : a < 64) (hb : b < 64) (h7 : K a ≤ 7) (e : K a = K b) (hA : lm_Vw vv vl a (K a) (G a)) (hB : lm_Vw vv vl b (K b) (G b)) (post : Int32 → Prop) (h1 : lm_sv K G a b → post 1) (h0 : ¬ lm_sv K G a b → post 0) :
    ∀ d j f : Nat, j + d = K a → d < f → (∀ i, i < j → G a i = G b i) → wX_haveSameView_19 post (nI a) (nI b) f1 f2 c l r t w ev vv vl la f (nI j) := by
  intro d
  induction d with
  | zero =>
    intro j f hj hf hg
    obtain ⟨f, rfl⟩ : ∃ f', f = f' + 1 := ⟨f - 1, by omega⟩
    refine ⟨lm_v64 ha, ?_⟩
    rw [lm_cl (q := a) (by omega), hA.1]
    exact pk_le (K a) j (fun _ => h1 ⟨e, fun i hi => hg i (by omega)⟩) (fun z => by omega)
  | succ d ih =>
    intro j f hj hf hg
    obtain ⟨f, rfl⟩ : ∃ f', f = f' + 1 := ⟨f - 1, by omega⟩
    refine ⟨lm_v64 ha, ?_⟩
    rw [lm_cl (q := a) (by omega), hA.1]
    refine pk_le (K a) j (fun z => by omega) (fun _ => ?_)
    rw [lm_i7, lm_i7, lm_cl (q := 7 * a + j) (by omega), lm_cl (q := 7 * b + j) (by omega), hA.2 j (by omega), hB.2 j (by omega)]
    refine ⟨vp_in_nI (by omega) (by omega), vp_in_nI (by omega) (by omega), br_c (fun z => nm_r (nI_1 j) (ih (j + 1) f (by omega) (by omega) ?_)) (fun z => h0 ?_)⟩
    · intro i hi
      by_cases ei : i = j
      · rw [ei]; exact z
      · exact hg i (by omega)
    · exact fun s => z (s.2 j (by omega))
theorem lm_xSame {a b : Nat} (ha : a < 64) (hb : b < 64) (h7 : ∀ s, s < 64 → K s ≤ 7) (hV : ∀ s, s < 64 → lm_Vw vv vl s (K s) (G s)) (post : Int32 → Prop) (h1 : lm_sv K G a b → post 1) (h0 : ¬ lm_sv K G a b → post 0) :
    wpX_haveSameView post (f1, f2, c, l, r, t, w, ev, vv, vl, la) (nI a) (nI b) := by
  have x7 := h7 a ha
  have y7 := h7 b hb
  unfold wpX_haveSameView
  refine ⟨lm_v64 ha, lm_v64 hb, ?_⟩
  rw [lm_cl (q := a) (by omega), lm_cl (q := b) (by omega), (hV a ha).1, (hV b hb).1]
  refine pk_eq (K a) (K b) (fun z => ⟨K a + 1, ?_⟩) (fun z => h0 (fun s => z s.1))
  exact lm_xSameL ha hb x7 z (hV a ha) (hV b hb) post h1 h0 (K a) 0 (K a + 1) (by omega) (by omega) (fun i hi => absurd hi (Nat.not_lt_zero i))
theorem lm_xFirst {s : Nat} (hs : s < 64) (h7 : ∀ s, s < 64 → K s ≤ 7) (hV : ∀ s, s < 64 → lm_Vw vv vl s (K s) (G s)) (post : Int32 → Prop) (h : ∀ x : Nat, lm_Ls K G s x → post (nI x)) :
    ∀ d j f : Nat, j + d = s → d < f → (∀ i, i < j → ¬ lm_sv K G i s) → wX_firstWithSameView_2 post (nI s) f1 f2 c l r t w ev vv vl la f (nI j) := by
  intro d
  induction d with
  | zero =>
    intro j f hj hf hg
    obtain ⟨f, rfl⟩ : ∃ f', f = f' + 1 := ⟨f - 1, by omega⟩
    refine pk_le s j (fun _ => h s ⟨Nat.le_refl s, lm_svR s, fun i hi => hg i (by omega)⟩) (fun z => by omega)
  | succ d ih =>
    intro j f hj hf hg
    obtain ⟨f, rfl⟩ : ∃ f', f = f' + 1 := ⟨f - 1, by omega⟩
    refine pk_le s j (fun z => by omega) (fun _ => lm_xSame (K := K) (G := G) (by omega) hs h7 hV _ (fun z => ?_) (fun z => ?_))
    · exact br_f (by decide) (h j ⟨by omega, z, hg⟩)
    · refine br_t rfl (nm_r (nI_1 j) (ih (j + 1) f (by omega) (by omega) ?_))
      intro i hi
      by_cases ei : i = j
      · rw [ei]; exact z
      · exact hg i (by omega)
theorem lm_xM21 (h7 : ∀ s, s < 64 → K s ≤ 7) (hV : ∀ s, s < 64 → lm_Vw vv vl s (K s) (G s)) (post : SX → Prop) (hp : ∀ la' : Nat → Int32, (∀ s, s < 64 → ∃ x : Nat, la' s = nI x ∧ lm_Ls K G s x) → post (f1, f2, c, l, r, t, w, ev, vv, vl, la')) :
    ∀ (d i f : Nat) (la : Nat → Int32), i + d = 64 → d < f → (∀ s, s < i → ∃ x : Nat, la s = nI x ∧ lm_Ls K G s x) → wX_measure_21 post f1 f2 f (nI i) c l r t w ev vv vl la := by
  intro d
  induction d with
  | zero =>
    intro i f la hi hf hl
    obtain ⟨f, rfl⟩ : ∃ f', f = f' + 1 := ⟨f - 1, by omega⟩
    exact pk_le 64 i (fun _ => hp la (fun s hs => hl s (by omega))) (fun z => by omega)
  | succ d ih =>
    intro i f la hi hf hl
    obtain ⟨f, rfl⟩ : ∃ f', f = f' + 1 := ⟨f - 1, by omega⟩
    refine pk_le 64 i (fun z => by omega) (fun _ => ?_)
    unfold wpX_firstWithSameView
    refine ⟨i + 1, lm_xFirst (K := K) (G := G) (by omega) h7 hV _ (fun x hx => ?_) i 0 (i + 1) (by omega) (by omega) (fun j hj => absurd hj (Nat.not_lt_zero j))⟩
    refine ⟨lm_v64 (by omega), nm_r (e' := upd la i (nI x)) (by rw [lm_cl (by omega)]) (nm_r (nI_1 i) (ih (i + 1) f _ (by omega) (by omega) ?_))⟩
    intro s hs
    by_cases es : s = i
    · rw [es]; exact ⟨x, pk_us, hx⟩
    · rw [pk_un es]; exact hl s (by omega)
end
theorem lm_xM2 {n op : Nat} {c l r t w la : Nat → Int32} (T : lm_Tie n op c t w) (post : SX → Prop)
    (hp : ∀ ev vv vl la' : Nat → Int32, lm_Pc c l r n ev vv vl la' → post (nI n, nI op, c, l, r, t, w, ev, vv, vl, la')) :
    ∀ (d i f : Nat) (ev vv vl : Nat → Int32), i + d = 64 → d < f → (∀ s, s < i → lm_M ev (4 * s) (lm_V c l r n s) ∧ lm_Vw vv vl s (lm_K c l r n s) (lm_G c l r n s)) → wX_measure_2 post f (nI i) (nI n) (nI op) c l r t w ev vv vl la := by
  intro d
  induction d with
  | zero =>
    intro i f ev vv vl hi hf hs
    obtain ⟨f, rfl⟩ : ∃ f', f = f' + 1 := ⟨f - 1, by omega⟩
    refine pk_le 64 i (fun _ => ⟨65, ?_⟩) (fun z => by omega)
    refine lm_xM21 (K := lm_K c l r n) (G := lm_G c l r n) (fun s hs => lm_K7 hs) (fun s h => (hs s (by omega)).2) post ?_ 64 0 65 la (by omega) (by omega) (fun s h => absurd h (Nat.not_lt_zero s))
    intro la' hl
    exact hp ev vv vl la' ⟨fun s h => hs s (by omega), hl⟩
  | succ d ih =>
    intro i f ev vv vl hi hf hs
    obtain ⟨f, rfl⟩ : ∃ f', f = f' + 1 := ⟨f - 1, by omega⟩
    refine pk_le 64 i (fun z => by omega) (fun _ => lm_xRun T (by omega) _ ?_)
    intro ev' vv' vl' hF hM hV
    refine nm_r (nI_1 i) (ih (i + 1) f ev' vv' vl' (by omega) (by omega) ?_)
    intro s h
    by_cases es : s = i
    · rw [es]; exact ⟨hM, hV⟩
    · obtain ⟨b1, b2, b3⟩ := hF s (by omega) es
      obtain ⟨a1, a2, a3⟩ := hs s (by omega)
      refine ⟨fun j hj => (b1 j hj).trans (a1 j hj), b2.trans a2, fun j hj => (b3 j ?_).trans (a3 j hj)⟩
      have := lm_K7 (c := c) (l := l) (r := r) (n := n) (q := s) (by omega)
      omega
theorem lm_xMeas {n op : Nat} {c l r t w ev vv vl la : Nat → Int32} (T : lm_Tie n op c t w) (post : SX → Prop)
    (hp : ∀ ev' vv' vl' la' : Nat → Int32, lm_Pc c l r n ev' vv' vl' la' → post (nI n, nI op, c, l, r, t, w, ev', vv', vl', la')) :
    wpX_measure post (nI n, nI op, c, l, r, t, w, ev, vv, vl, la) := by
  unfold wpX_measure
  exact ⟨65, lm_xM2 T post hp 64 0 65 ev vv vl (by omega) (by omega) (fun s h => absurd h (Nat.not_lt_zero s))⟩
end
section
/-! the reference's scans: the count of parts not closed, whether the inmost has its ELSE, where a jump leads -/
theorem lm_v40 {q : Nat} (h : q < 40) : vp_in (nI q) 40 := vp_in_nI h (by omega)
theorem lm_f1 {f d : Nat} (h : d < f) : ∃ f' : Nat, f = f' + 1 := ⟨f - 1, by omega⟩
section
variable {p : Int32} {c l r va o vw : Nat → Int32} {n : Nat}
theorem lm_yOpenL (h40 : n ≤ 40) (post : Int32 → Prop) (h : post (lm_cn c n)) :
    ∀ d m f : Nat, m + d = n → d < f → wY_open_4 post (nI n) p c l r va o vw f (lm_cn c m) (nI m) := by
  intro d
  induction d with
  | zero =>
    intro m f hm hf
    obtain ⟨f, rfl⟩ := lm_f1 hf
    have em : m = n := by omega
    rw [em]
    exact pk_le n n (fun _ => h) (fun z => absurd z (Nat.lt_irrefl n))
  | succ d ih =>
    intro m f hm hf
    obtain ⟨f, rfl⟩ := lm_f1 hf
    have cm : (nI m).toNatClampNeg = m := lm_cl (by omega)
    have H := ih (m + 1) f (by omega) (by omega)
    refine pk_le n m (fun z => by omega) (fun _ => ⟨lm_v40 (by omega), ?_⟩)
    unfold wY_open_26
    rw [cm]
    by_cases h13 : c m = 13
    · have e : lm_cn c (m + 1) = lm_cn c m + 1 := if_pos h13
      rw [e] at H
      exact br_t h13 (nm_e ⟨lm_v40 (by omega), br_f (by rw [h13]; exact lm_d1) (nm_r (nI_1 m) H)⟩)
    · refine br_f h13 ⟨lm_v40 (by omega), ?_⟩
      by_cases h15 : c m = 15
      · have e : lm_cn c (m + 1) = lm_cn c m + (-1) := (if_neg h13).trans (if_pos h15)
        rw [e] at H
        exact br_t h15 (nm_e (nm_r (nI_1 m) H))
      · have e : lm_cn c (m + 1) = lm_cn c m := (if_neg h13).trans (if_neg h15)
        rw [e] at H
        exact br_f h15 (nm_r (nI_1 m) H)
theorem lm_yOpen (h40 : n ≤ 40) (post : Int32 → Prop) (h : post (lm_cn c n)) : wpY_open post (nI n, p, c, l, r, va, o, vw) := by
  unfold wpY_open
  exact ⟨n + 1, lm_yOpenL h40 post h n 0 (n + 1) (by omega) (by omega)⟩
theorem lm_y61 {post : Int32 → Prop} {J : Int32 → Int32 → Prop} {x : Int32} {q : Nat} (hq : q + 1 < 40) (h1 : c (q + 1) = 13 → J (x + (-1)) (nI q)) (h2 : c (q + 1) ≠ 13 → J x (nI q)) : wY_hasElse_61 post J x (nI (q + 1)) (nI n) p c l r va o vw := by
  unfold wY_hasElse_61
  rw [lm_cl (q := q + 1) (by omega)]
  exact ⟨lm_v40 hq, br_c (fun z => nm_e (nm_r (pk_m1 q) (h1 z))) (fun z => nm_r (pk_m1 q) (h2 z))⟩
theorem lm_y47 {post : Int32 → Prop} {J : Int32 → Int32 → Prop} {x : Int32} {q : Nat} (hq : q + 1 < 40) (h1 : c (q + 1) = 13 → J (x + (-1)) (nI q)) (h2 : c (q + 1) = 15 → J (x + 1) (nI q)) (h3 : c (q + 1) ≠ 13 → c (q + 1) ≠ 15 → J x (nI q)) : wY_hasElse_47 post J x (nI (q + 1)) (nI n) p c l r va o vw := by
  unfold wY_hasElse_47
  refine ⟨lm_v40 hq, ?_⟩
  have cq : (nI (q + 1)).toNatClampNeg = q + 1 := lm_cl (by omega)
  refine br_c (fun z => nm_e (lm_y61 hq (fun y => ?_) (fun _ => ?_))) (fun z => lm_y61 hq h1 (fun y => h3 y ?_))
  · rw [cq] at z
    rw [y] at z
    exact absurd z lm_d1
  · rw [cq] at z
    exact h2 z
  · rw [cq] at z
    exact z
theorem lm_y30 {post : Int32 → Prop} {J : Int32 → Int32 → Prop} {d q : Nat} (hd : d < 1000) (hq : q + 1 < 40) (h0 : d = 0 → c (q + 1) ≠ 13) (h1 : c (q + 1) = 13 → J (nI d + (-1)) (nI q)) (h2 : c (q + 1) = 15 → J (nI d + 1) (nI q)) (h3 : c (q + 1) ≠ 13 → c (q + 1) ≠ 15 → J (nI d) (nI q)) : wY_hasElse_30 post J (nI d) (nI (q + 1)) (nI n) p c l r va o vw := by
  unfold wY_hasElse_30
  have cq : (nI (q + 1)).toNatClampNeg = q + 1 := lm_cl (by omega)
  refine pk_eq d 0 (fun z => ⟨lm_v40 hq, br_f ?_ (lm_y47 hq h1 h2 h3)⟩) (fun _ => lm_y47 hq h1 h2 h3)
  rw [cq]
  exact h0 z
theorem lm_yElseL {i : Nat} (h40 : n ≤ 40) (hS : lm_S c i n = (0, 0)) (post : Int32 → Prop) (h13 : c i = 13 → post 0) (h14 : c i = 14 → post 1) (hc : c i = 13 ∨ c i = 14) :
    ∀ d q f : Nat, q = i + d → q < n → d < f → wY_hasElse_9 post (nI n) p c l r va o vw f (nI (lm_D c i (q + 1))) (nI q) := by
  intro d
  induction d with
  | zero =>
    intro q f e hq hf
    obtain ⟨f, rfl⟩ := lm_f1 hf
    have eq : q = i := e
    subst eq
    have cq : (nI q).toNatClampNeg = q := lm_cl (by omega)
    rw [lm_D0]
    refine br_f (nI_pos (by omega)) (br_t rfl ⟨lm_v40 (by omega), ?_⟩)
    rw [cq]
    refine br_c h14 (fun z => ?_)
    have z13 : c q = 13 := by
      rcases hc with y | y
      · exact y
      · exact absurd y z
    unfold wY_hasElse_30
    refine br_t rfl ⟨lm_v40 (by omega), ?_⟩
    rw [cq]
    exact br_t z13 (h13 z13)
  | succ d ih =>
    intro q f e hq hf
    obtain ⟨f, rfl⟩ := lm_f1 hf
    obtain ⟨q, rfl⟩ : ∃ q', q = q' + 1 := ⟨q - 1, by omega⟩
    have H := ih q f (by omega) (by omega) (by omega)
    have cq : (nI (q + 1)).toNatClampNeg = q + 1 := lm_cl (by omega)
    have hi : i < q + 1 := by omega
    have dl : lm_D c i (q + 1 + 1) < 1000 := by
      have := lm_Dle (c := c) (p := i) (m := q + 1 + 1)
      omega
    have k1 : c (q + 1) = 13 → nI (lm_D c i (q + 1 + 1)) + (-1) = nI (lm_D c i (q + 1)) := fun z => by rw [lm_D13 hS hi hq z]; exact pk_m1 _
    have k2 : c (q + 1) = 15 → nI (lm_D c i (q + 1 + 1)) + 1 = nI (lm_D c i (q + 1)) := fun z => by rw [lm_D15 hS hi hq z]; exact nI_1 _
    have k3 : c (q + 1) ≠ 13 → c (q + 1) ≠ 15 → lm_D c i (q + 1 + 1) = lm_D c i (q + 1) := fun z y => by
      by_cases x : c (q + 1) = 14
      · exact (lm_D14 hS hi hq x).1
      · exact lm_DO hS hi hq z x y
    have H30 : wY_hasElse_30 post (wY_hasElse_9 post (nI n) p c l r va o vw f) (nI (lm_D c i (q + 1 + 1))) (nI (q + 1)) (nI n) p c l r va o vw := by
      refine lm_y30 dl (by omega) (fun z y => ?_) (fun z => ?_) (fun z => ?_) (fun z y => ?_)
      · have := lm_D13 hS hi hq y
        omega
      · rw [k1 z]; exact H
      · rw [k2 z]; exact H
      · rw [k3 z y]; exact H
    refine br_f (nI_pos (by omega)) (pk_eq (lm_D c i (q + 1 + 1)) 0 (fun z => ⟨lm_v40 (by omega), ?_⟩) (fun _ => H30))
    rw [cq]
    refine br_c (fun y => h14 ?_) (fun _ => H30)
    rcases hc with x | x
    · have w := lm_D14 hS hi hq y
      have w2 := w.2 x
      omega
    · exact x
theorem lm_yElse {i : Nat} (h40 : n ≤ 40) (hi : i < n) (hS : lm_S c i n = (0, 0)) (post : Int32 → Prop) (h13 : c i = 13 → post 0) (h14 : c i = 14 → post 1) (hc : c i = 13 ∨ c i = 14) : wpY_hasElse post (nI n, p, c, l, r, va, o, vw) := by
  unfold wpY_hasElse
  obtain ⟨m, rfl⟩ : ∃ m, n = m + 1 := ⟨n - 1, by omega⟩
  refine nm_r (nI_pred m) ⟨m + 1, ?_⟩
  have H := lm_yElseL (p := p) (l := l) (r := r) (va := va) (o := o) (vw := vw) h40 hS post h13 h14 hc (m - i) m (m + 1) (by omega) (by omega) (by omega)
  have e : lm_D c i (m + 1) = 0 := congrArg Prod.snd hS
  rw [e] at H
  exact H
theorem lm_skP {c : Nat → Int32} {b : Bool} {p m : Nat} (hp : p < m) (h : (lm_sk c b p m).1 ≠ 0) : ∀ d : Nat, lm_sk c b p (m + d) = lm_sk c b p m
  | 0 => rfl
  | d + 1 => by
    have e := lm_skP hp h d
    have s : lm_sk c b p (m + d + 1) = lm_step c b (m + d) (lm_sk c b p (m + d)) := lm_skS (by omega)
    rw [show m + (d + 1) = m + d + 1 from rfl, s, e]
    exact if_pos h
theorem lm_Bf {c : Nat → Int32} {n i m f : Nat} (hi : i < m) (hm : m ≤ n) (h : lm_S c i m = (f, 0)) (hf : f ≠ 0) : lm_B c n i = f := by
  have e : lm_S c i n = (f, 0) := by
    have a := lm_skP (c := c) (b := lm_o c i) hi (by show (lm_S c i m).1 ≠ 0; rw [h]; exact hf) (n - m)
    have b : m + (n - m) = n := by omega
    rw [b] at a
    exact a.trans h
  unfold lm_B
  rw [e]
  exact if_neg hf
theorem lm_y68 {post : Int32 → Prop} {J : Int32 → Int32 → Prop} {y x : Int32} {q : Nat} (hq : q < 40) (h1 : c q = 15 → J (x + (-1)) (nI (q + 1))) (h2 : c q ≠ 15 → J x (nI (q + 1))) : wY_behind_68 post J y x (nI q) (nI n) p c l r va o vw := by
  unfold wY_behind_68
  rw [lm_cl (q := q) (by omega)]
  exact ⟨lm_v40 hq, br_c (fun z => nm_e (nm_r (nI_1 q) (h1 z))) (fun z => nm_r (nI_1 q) (h2 z))⟩
theorem lm_y53 {post : Int32 → Prop} {J : Int32 → Int32 → Prop} {y x : Int32} {q : Nat} (hq : q < 40) (h1 : c q = 13 → J (x + 1) (nI (q + 1))) (h2 : c q = 15 → J (x + (-1)) (nI (q + 1))) (h3 : c q ≠ 13 → c q ≠ 15 → J x (nI (q + 1))) : wY_behind_53 post J y x (nI q) (nI n) p c l r va o vw := by
  unfold wY_behind_53
  have cq : (nI q).toNatClampNeg = q := lm_cl (by omega)
  rw [cq]
  refine ⟨lm_v40 hq, br_c (fun z => nm_e (lm_y68 hq (fun w => ?_) (fun _ => h1 z))) (fun z => lm_y68 hq h2 (fun w => h3 z w))⟩
  rw [z] at w
  exact absurd w lm_d1
theorem lm_yBehL {i : Nat} {y : Int32} (h40 : n ≤ 40) (hy : (c i = 13 ∧ y = 1) ∨ (c i ≠ 13 ∧ y = 0)) (post : Int32 → Prop) (h : post (nI (lm_B c n i))) :
    ∀ e q f d : Nat, q + e = n → i < q → e < f → lm_S c i q = (0, d) → wY_behind_7 post y (nI n) p c l r va o vw f (nI d) (nI q) := by
  intro e
  induction e with
  | zero =>
    intro q f d hq hi hf hS
    obtain ⟨f, rfl⟩ := lm_f1 hf
    have eq : q = n := by omega
    subst eq
    have eB : lm_B c q i = q := by unfold lm_B; rw [hS]; exact if_pos rfl
    rw [eB] at h
    exact pk_le q q (fun _ => h) (fun z => absurd z (Nat.lt_irrefl q))
  | succ e ih =>
    intro q f d hq hi hf hS
    obtain ⟨f, rfl⟩ := lm_f1 hf
    have hq40 : q < 40 := by omega
    have hd : d ≤ q := by
      have z := lm_Dle (c := c) (p := i) (m := q)
      unfold lm_D at z
      rw [hS] at z
      exact z
    have cq : (nI q).toNatClampNeg = q := lm_cl (by omega)
    have S1 := lm_SS (c := c) hi
    rw [hS] at S1
    have H : ∀ d' : Nat, lm_S c i (q + 1) = (0, d') → wY_behind_7 post y (nI n) p c l r va o vw f (nI d') (nI (q + 1)) := fun d' h' => ih (q + 1) f d' (by omega) (by omega) (by omega) h'
    have HB : lm_S c i (q + 1) = (q + 1, 0) → post (nI q + 1) := fun z => by
      have eB := lm_Bf (n := n) (by omega) (by omega) z (Nat.succ_ne_zero q)
      rw [eB] at h
      rw [nI_1]
      exact h
    have H53 : (d = 0 → c q ≠ 15) → (d = 0 → c i = 13 → c q ≠ 14) → wY_behind_53 post (wY_behind_7 post y (nI n) p c l r va o vw f) y (nI d) (nI q) (nI n) p c l r va o vw := by
      intro a b
      refine lm_y53 hq40 (fun z => ?_) (fun z => ?_) (fun z z2 => ?_)
      · rw [nI_1]
        rw [lm_stI z] at S1
        exact H _ S1
      · obtain ⟨d2, rfl⟩ : ∃ d2, d = d2 + 1 := ⟨d - 1, by have : d ≠ 0 := fun x => a x z; omega⟩
        rw [pk_m1]
        rw [lm_stD z] at S1
        exact H _ S1
      · by_cases z3 : c q = 14
        · by_cases ei : c i = 13
          · rw [lm_stEn z3 (Or.inl (fun x => b x ei z3))] at S1
            exact H _ S1
          · have eo : lm_o c i = false := by unfold lm_o; exact decide_eq_false ei
            rw [lm_stEn z3 (Or.inr eo)] at S1
            exact H _ S1
        · rw [lm_stO z z3 z2] at S1
          exact H _ S1
    refine pk_le n q (fun z => by omega) (fun _ => pk_eq d 0 (fun z => ⟨lm_v40 hq40, ?_⟩) (fun z => H53 (fun x => absurd x z) (fun x => absurd x z)))
    subst z
    rw [cq]
    refine br_c (fun z15 => HB ?_) (fun n15 => ?_)
    · rw [S1]; exact lm_stD0 z15
    · rcases hy with ⟨c13, ey⟩ | ⟨nc13, ey⟩
      · subst ey
        refine br_f (by decide) ⟨lm_v40 hq40, br_c (fun z14 => HB ?_) (fun n14 => H53 (fun _ => n15) (fun _ _ => n14))⟩
        have eo : lm_o c i = true := by unfold lm_o; exact decide_eq_true c13
        rw [S1, eo]
        exact lm_stE0 z14
      · subst ey
        exact br_t rfl (H53 (fun _ => n15) (fun _ x => absurd x nc13))
theorem lm_yBeh {i : Nat} {y : Int32} (h40 : n ≤ 40) (hi : i < n) (hy : (c i = 13 ∧ y = 1) ∨ (c i ≠ 13 ∧ y = 0)) (post : Int32 → Prop) (h : post (nI (lm_B c n i))) : wpY_behind post (nI n, p, c, l, r, va, o, vw) (nI i) y := by
  unfold wpY_behind
  exact nm_r (nI_1 i) ⟨n + 1, lm_yBehL h40 hy post h (n - (i + 1)) (i + 1) (n + 1) 0 (by omega) (by omega) (by omega) lm_SN⟩
end
end
section
/-! the reference's run of the program for one secret, against lm_P -/
theorem lm_yPowL {k : Nat} (hk : k < 8) (post : Int32 → Prop) (h : post (nI (2 ^ k))) :
    ∀ e i f : Nat, i + e = k → e < f → wY_power_4 post (nI k) f (nI (2 ^ i)) (nI i) := by
  intro e
  induction e with
  | zero =>
    intro i f hi hf
    obtain ⟨f, rfl⟩ := lm_f1 hf
    have ei : i = k := by omega
    subst ei
    exact pk_le i i (fun _ => h) (fun z => absurd z (Nat.lt_irrefl i))
  | succ e ih =>
    intro i f hi hf
    obtain ⟨f, rfl⟩ := lm_f1 hf
    have H := ih (i + 1) f (by omega) (by omega)
    have e2 : nI (2 ^ i) * 2 = nI (2 ^ (i + 1)) := pk_mul (2 ^ i) 2
    exact pk_le k i (fun z => by omega) (fun _ => pk_le 7 i (fun z => by omega) (fun _ => nm_r e2 (nm_r (nI_1 i) H)))
theorem lm_n256 : ¬ (256 : Int32) = 0 := by decide
theorem lm_yWk {j a e : Nat} (hj : j < 12) (ha : a < 256) (he : e < 256) (b : Int32) (post : Int32 → Prop) (h : post (lm_wk (nI j) (nI a) (nI e) b)) : wpY_worked post (nI j) (nI a) (nI e) b := by
  obtain ⟨k, hk, eb⟩ := pk_andE b (m := 7) 3 (by decide)
  have hk8 : k < 8 := hk
  unfold wpY_worked wpY_power
  rw [eb]
  refine ⟨k + 1, lm_yPowL hk8 _ ?_ k 0 (k + 1) (by omega) (by omega)⟩
  have hp := lm_pw k hk8
  refine br_c (fun z => by rw [z, ← lm_wk0] at h; exact h) (fun z0 => ?_)
  refine br_c (fun z => by rw [z, ← lm_wk1 he] at h; exact h) (fun z1 => ?_)
  refine br_c (fun z => by rw [z, ← lm_wk2 ha he] at h; exact ⟨lm_n256, h⟩) (fun z2 => ?_)
  refine br_c (fun z => by rw [z, ← lm_wk3 ha he] at h; exact ⟨lm_n256, h⟩) (fun z3 => ?_)
  refine br_c (fun z => by rw [z, ← lm_wk4 ha he] at h; exact ⟨lm_n256, h⟩) (fun z4 => ?_)
  refine br_c (fun z => by rw [z, ← lm_wk5 ha he] at h; exact h) (fun z5 => ?_)
  refine br_c (fun z => by rw [z, ← lm_wk6 ha he] at h; exact h) (fun z6 => ?_)
  refine br_c (fun z => by rw [z, ← lm_wk7 ha he] at h; exact h) (fun z7 => ?_)
  refine br_c (fun z => by rw [z, ← lm_wk8 ha hk8 _ b eb] at h; exact ⟨lm_n256, h⟩) (fun z8 => ?_)
  refine br_c (fun z => ?_) (fun z9 => ?_)
  · rw [z, ← lm_wk9 ha hk8 _ b eb] at h
    refine br_f (nI_nle (by omega) (by omega)) ⟨nI_ne0 (by omega) (by omega), h⟩
  refine br_c (fun z => ?_) (fun z10 => ?_)
  · rw [z] at h
    refine br_c (fun g => ?_) (fun g => ?_)
    · rw [← lm_wk10f b (Int32.not_lt.mpr g)] at h; exact h
    · rw [← lm_wk10t b (Int32.not_le.mp g)] at h; exact h
  · have j11 : j = 11 := by
      have g : ∀ i, i < 12 → ¬ nI j = nI i → j ≠ i := fun i _ hi hh => hi (by rw [hh])
      have a0 := g 0 (by omega) z0
      have a1 := g 1 (by omega) z1
      have a2 := g 2 (by omega) z2
      have a3 := g 3 (by omega) z3
      have a4 := g 4 (by omega) z4
      have a5 := g 5 (by omega) z5
      have a6 := g 6 (by omega) z6
      have a7 := g 7 (by omega) z7
      have a8 := g 8 (by omega) z8
      have a9 := g 9 (by omega) z9
      have a10 := g 10 (by omega) z10
      omega
    have z : nI j = 11 := by rw [j11]; rfl
    rw [z] at h
    refine br_c (fun g => ?_) (fun g => ?_)
    · rw [← lm_wk11t b g] at h; exact h
    · rw [← lm_wk11f b g] at h; exact h
/-- the four variables -/
def lm_A (va v : Nat → Int32) : Prop := ∀ j, j < 4 → va j = v j
theorem lm_Au {va v : Nat → Int32} {i : Nat} {x : Int32} (h : lm_A va v) : lm_A (upd va i x) (upd v i x) := by
  intro j hj
  by_cases e : j = i
  · rw [e, pk_us, pk_us]
  · rw [pk_un e, pk_un e]
    exact h j hj
section
variable {c l r va o vw : Nat → Int32} {n : Nat}
theorem lm_yShow {q k : Nat} {x : Int32} (hq : q < 64) (hk : k ≤ 7) (post : SY → Prop) (h1 : k < 7 → post (nI n, nI (k + 1), c, l, r, va, o, upd vw (7 * q + k) x)) (h2 : ¬ k < 7 → post (nI n, nI k, c, l, r, va, o, vw)) : wpY_show post (nI n, nI k, c, l, r, va, o, vw) (nI q) x := by
  unfold wpY_show
  refine pk_le 7 k (fun z => h2 (by omega)) (fun z => ?_)
  rw [lm_i7', lm_cl (q := 7 * q + k) (by omega), nI_1]
  exact ⟨vp_in_nI (by omega) (by omega), nm_e (nm_e (h1 z))⟩
theorem lm_yLoop {q : Nat} {o vw0 : Nat → Int32} (h40 : n ≤ 40) (hcode : ∀ p, p < n → ∃ j : Nat, j < 16 ∧ c p = nI j) (hq : q < 64) (post : SY → Prop)
    (hp : ∀ (k : Nat) (va vw : Nat → Int32), k = lm_K c l r n q → lm_A va (lm_V c l r n q) → lm_O vw q k (lm_G c l r n q) → lm_F7 q vw0 vw → post (nI n, nI k, c, l, r, va, upd o q (nI k), vw)) :
    ∀ (e a s f nx k : Nat) (v g va vw : Nat → Int32), a ≤ n → n - a ≤ e → e < f → s ≤ a → lm_P c l r n q a = (nx, v, k, g) → nx ≤ a → lm_A va v → lm_O vw q k g → lm_F7 q vw0 vw → wY_run_36 post (nI q) f (nI a) (nI s) (nI n) (nI k) c l r va o vw := by
  have hend : ∀ (a nx k : Nat) (v g va vw : Nat → Int32), a = n → lm_P c l r n q a = (nx, v, k, g) → lm_A va v → lm_O vw q k g → lm_F7 q vw0 vw → vp_in (nI q) 64 ∧ ∀ o' : Nat → Int32, o' = upd o (nI q).toNatClampNeg (nI k) → post (nI n, nI k, c, l, r, va, o', vw) := by
    intro a nx k v g va vw ea hP hA hO hF
    subst ea
    refine ⟨lm_v64 hq, nm_r (e' := upd o q (nI k)) (by rw [lm_cl (by omega)]) (hp k va vw ?_ ?_ ?_ hF)⟩
    · unfold lm_K; rw [hP]
    · unfold lm_V; rw [hP]; exact hA
    · unfold lm_G; rw [hP]; exact hO
  intro e
  induction e with
  | zero =>
    intro a s f nx k v g va vw ha he hf hs hP hn hA hO hF
    obtain ⟨f, rfl⟩ := lm_f1 hf
    have ea : a = n := by omega
    have H := hend a nx k v g va vw ea hP hA hO hF
    subst ea
    exact br_c (fun _ => H) (fun _ => pk_le a a (fun _ => H) (fun z => absurd z (Nat.lt_irrefl a)))
  | succ e ih =>
    intro a s f nx k v g va vw ha he hf hs hP hn hA hO hF
    obtain ⟨f, rfl⟩ := lm_f1 hf
    by_cases ea : a = n
    · have H := hend a nx k v g va vw ea hP hA hO hF
      subst ea
      exact br_c (fun _ => H) (fun _ => pk_le a a (fun _ => H) (fun z => absurd z (Nat.lt_irrefl a)))
    · have han : a < n := by omega
      obtain ⟨j, hj, ec⟩ := hcode a han
      have OK := lm_POk (c := c) (l := l) (r := r) (n := n) hq a (by omega)
      rw [hP] at OK
      have hk : k ≤ 7 := OK.2.1
      have hv : ∀ i, ∃ z : Nat, z < 256 ∧ v i = nI z := OK.1
      have ca : (nI a).toNatClampNeg = a := lm_cl (by omega)
      have vm : vp_in (nI a) 40 := lm_v40 (by omega)
      have hi := lm_ix_lt (l a)
      have hi2 := lm_ix_lt (r a)
      have HJ : ∀ (nx' k' : Nat) (v' g' va' vw' : Nat → Int32), lm_P c l r n q (a + 1) = (nx', v', k', g') → lm_A va' v' → lm_O vw' q k' g' → lm_F7 q vw vw' → wY_run_36 post (nI q) f (nI nx') (nI (s + 1)) (nI n) (nI k') c l r va' o vw' := by
        intro nx' k' v' g' va' vw' hP' hA' hO' hF'
        have gt : a < nx' := by
          have z := lm_exGt (c := c) (l := l) (r := r) (s := lm_P c l r n q a) han
          rw [← lm_PS (by rw [hP]; exact hn), hP'] at z
          exact z
        have le : nx' ≤ n := by
          have z := (lm_POk (c := c) (l := l) (r := r) (n := n) hq (a + 1) (by omega)).2.2
          rw [hP'] at z
          exact z
        have sk := lm_skip (c := c) (l := l) (r := r) (n := n) (q := q) (m := a + 1) (nx' - (a + 1)) (by rw [hP']; show a + 1 + (nx' - (a + 1)) ≤ nx'; omega)
        have e1 : a + 1 + (nx' - (a + 1)) = nx' := by omega
        rw [e1, hP'] at sk
        exact ih nx' (s + 1) f nx' k' v' g' va' vw' le (by omega) (by omega) (by omega) sk (Nat.le_refl _) hA' hO' (lm_F7T hF hF')
      refine pk_le 40 s (fun z => by omega) (fun _ => pk_le n a (fun z => by omega) (fun _ => ⟨vm, ?_⟩))
      rw [ca, lm_ix_eq (l a), lm_ix_eq (r a), nI_1 a, lm_cl (q := lm_ix (l a)) (by omega), lm_cl (q := lm_ix (r a)) (by omega)]
      have vi : vp_in (nI (lm_ix (l a))) 4 := vp_in_nI hi (by omega)
      refine nm_e ⟨vm, vi, nm_r (hA _ hi) ⟨vm, vp_in_nI hi2 (by omega), nm_r (hA _ hi2) (nm_e ?_)⟩⟩
      have n12 : j ≠ 12 → c a ≠ 12 := fun z => by rw [ec]; exact lm_ne (i := 12) hj (by omega) z
      have n13 : j ≠ 13 → c a ≠ 13 := fun z => by rw [ec]; exact lm_ne (i := 13) hj (by omega) z
      have n14 : j ≠ 14 → c a ≠ 14 := fun z => by rw [ec]; exact lm_ne (i := 14) hj (by omega) z
      have n15 : j ≠ 15 → c a ≠ 15 := fun z => by rw [ec]; exact lm_ne (i := 15) hj (by omega) z
      by_cases hlt : j < 12
      · have x : ¬ (11 : Int32) < c a := by rw [ec]; exact nI_nlt (a := 11) (b := j) (by omega) (by omega)
        refine br_f x ⟨vm, vm, ?_⟩
        obtain ⟨x1, hx1, ex1⟩ := hv (lm_ix (l a))
        obtain ⟨x2, hx2, ex2⟩ := hv (lm_ix (r a))
        have hS := lm_PD hP hn (n12 (by omega)) (n13 (by omega)) (n14 (by omega)) (n15 (by omega))
        have Z := HJ _ _ _ _ _ _ hS (lm_Au (x := lm_wk (c a) (v (lm_ix (l a))) (v (lm_ix (r a))) (r a)) hA) hO lm_F7R
        have Z2 : wY_run_128 post (wY_run_36 post (nI q) f) (nI q) (nI a) (nI s) (c a) (v (lm_ix (l a))) (nI (a + 1)) (nI n) (nI k) c l r (upd va (lm_ix (l a)) (lm_wk (c a) (v (lm_ix (l a))) (v (lm_ix (r a))) (r a))) o vw := by
          unfold wY_run_128 wY_run_142 wY_run_162
          exact br_f (n12 (by omega)) (br_f (n13 (by omega)) (br_f (n14 (by omega)) (nm_r (nI_1 s) Z)))
        rw [ec, ex1, ex2] at Z2
        rw [ec, ex1, ex2]
        exact lm_yWk hlt hx1 hx2 _ _ ⟨vi, nm_e Z2⟩
      · have x : (11 : Int32) < c a := by rw [ec]; exact nI_lt (a := 11) (b := j) (by omega) (by omega)
        refine br_t x ?_
        by_cases j12 : j = 12
        · have e12 : c a = 12 := by rw [ec, j12]; rfl
          unfold wY_run_128
          refine br_t e12 (lm_yShow hq hk _ (fun z => ?_) (fun z => ?_))
          · unfold wY_run_142 wY_run_162
            exact br_f (n13 (by omega)) (br_f (n14 (by omega)) (nm_r (nI_1 s) (HJ _ _ _ _ _ _ (lm_P12a hP hn e12 z) hA (lm_Ou hO) (lm_F7u (by omega)))))
          · unfold wY_run_142 wY_run_162
            exact br_f (n13 (by omega)) (br_f (n14 (by omega)) (nm_r (nI_1 s) (HJ _ _ _ _ _ _ (lm_P12b hP hn e12 z) hA hO lm_F7R)))
        · unfold wY_run_128
          refine br_f (n12 j12) ?_
          by_cases j13 : j = 13
          · have e13 : c a = 13 := by rw [ec, j13]; rfl
            unfold wY_run_142
            refine br_t e13 (br_c (fun z => ?_) (fun z => ?_))
            · refine lm_yBeh h40 han (Or.inl ⟨e13, rfl⟩) _ ?_
              unfold wY_run_162
              exact br_f (n14 (by omega)) (nm_r (nI_1 s) (HJ _ _ _ _ _ _ (lm_P13a hP hn e13 z) hA hO lm_F7R))
            · unfold wY_run_162
              exact br_f (n14 (by omega)) (nm_r (nI_1 s) (HJ _ _ _ _ _ _ (lm_P13b hP hn e13 z) hA hO lm_F7R))
          · unfold wY_run_142 wY_run_162
            refine br_f (n13 j13) ?_
            by_cases j14 : j = 14
            · have e14 : c a = 14 := by rw [ec, j14]; rfl
              exact br_t e14 (lm_yBeh h40 han (Or.inr ⟨n13 j13, rfl⟩) _ (nm_r (nI_1 s) (HJ _ _ _ _ _ _ (lm_P14 hP hn e14) hA hO lm_F7R)))
            · have j15 : j = 15 := by omega
              have e15 : c a = 15 := by rw [ec, j15]; rfl
              exact br_f (n14 j14) (nm_r (nI_1 s) (HJ _ _ _ _ _ _ (lm_P15 hP hn e15) hA hO lm_F7R))
theorem lm_yZero {q : Nat} {p : Int32} {o vw0 : Nat → Int32} (h40 : n ≤ 40) (hcode : ∀ p, p < n → ∃ j : Nat, j < 16 ∧ c p = nI j) (hq : q < 64) (post : SY → Prop)
    (hp : ∀ (k : Nat) (va vw : Nat → Int32), k = lm_K c l r n q → lm_A va (lm_V c l r n q) → lm_O vw q k (lm_G c l r n q) → lm_F7 q vw0 vw → post (nI n, nI k, c, l, r, va, upd o q (nI k), vw)) :
    ∀ (d i f : Nat) (va : Nat → Int32), i + d = 4 → d < f → (∀ j, j < i → va j = if j = 0 then nI q else 0) → 0 < i → wY_run_9 post (nI q) (nI n) p f (nI i) c l r va o vw0 := by
  intro d
  induction d with
  | zero =>
    intro i f va hi hf he h0
    obtain ⟨f, rfl⟩ := lm_f1 hf
    have ei : i = 4 := by omega
    subst ei
    refine pk_le 4 4 (fun _ => ⟨n + 1, ?_⟩) (fun z => absurd z (Nat.lt_irrefl 4))
    exact lm_yLoop h40 hcode hq post hp n 0 0 (n + 1) 0 0 _ _ va vw0 (by omega) (by omega) (by omega) (by omega) lm_P0 (by omega) he (fun j hj => absurd hj (Nat.not_lt_zero j)) lm_F7R
  | succ d ih =>
    intro i f va hi hf he h0
    obtain ⟨f, rfl⟩ := lm_f1 hf
    refine pk_le 4 i (fun z => by omega) (fun _ => ⟨vp_in_nI (by omega) (by omega), nm_r (e' := upd va i 0) (by rw [lm_cl (by omega)]) (nm_r (nI_1 i) (ih (i + 1) f _ (by omega) (by omega) ?_ (by omega)))⟩)
    intro j hj
    by_cases e : j = i
    · rw [e, pk_us, if_neg (by omega)]
    · rw [pk_un e]
      exact he j (by omega)
theorem lm_yRun {q : Nat} {p : Int32} (h40 : n ≤ 40) (hcode : ∀ p, p < n → ∃ j : Nat, j < 16 ∧ c p = nI j) (hq : q < 64) (post : SY → Prop)
    (hp : ∀ (k : Nat) (va' vw' : Nat → Int32), k = lm_K c l r n q → lm_A va' (lm_V c l r n q) → lm_O vw' q k (lm_G c l r n q) → lm_F7 q vw vw' → post (nI n, nI k, c, l, r, va', upd o q (nI k), vw')) :
    wpY_run post (nI n, p, c, l, r, va, o, vw) (nI q) := by
  unfold wpY_run
  refine nm_e ⟨4, lm_yZero h40 hcode hq post hp 3 1 4 _ (by omega) (by omega) ?_ (by omega)⟩
  intro j hj
  have e : j = 0 := by omega
  rw [e, pk_us, if_pos rfl]
theorem lm_yAllL (h40 : n ≤ 40) (hcode : ∀ p, p < n → ∃ j : Nat, j < 16 ∧ c p = nI j) (post : SY → Prop)
    (hp : ∀ (p : Int32) (va o vw : Nat → Int32), (∀ s, s < 64 → lm_Vw vw o s (lm_K c l r n s) (lm_G c l r n s)) → post (nI n, p, c, l, r, va, o, vw)) :
    ∀ (d i f : Nat) (p : Int32) (va o vw : Nat → Int32), i + d = 64 → d < f → (∀ s, s < i → lm_Vw vw o s (lm_K c l r n s) (lm_G c l r n s)) → wY_runAll_2 post f (nI i) (nI n) p c l r va o vw := by
  intro d
  induction d with
  | zero =>
    intro i f p va o vw hi hf hs
    obtain ⟨f, rfl⟩ := lm_f1 hf
    exact pk_le 64 i (fun _ => hp p va o vw (fun s h => hs s (by omega))) (fun z => by omega)
  | succ d ih =>
    intro i f p va o vw hi hf hs
    obtain ⟨f, rfl⟩ := lm_f1 hf
    refine pk_le 64 i (fun z => by omega) (fun _ => lm_yRun h40 hcode (by omega) _ ?_)
    intro k va' vw' ek hA hO hF
    refine nm_r (nI_1 i) (ih (i + 1) f _ _ _ _ (by omega) (by omega) ?_)
    intro s h
    by_cases es : s = i
    · subst es
      subst ek
      exact ⟨pk_us, hO⟩
    · obtain ⟨a1, a2⟩ := hs s (by omega)
      refine ⟨by rw [pk_un es]; exact a1, fun j hj => (hF s (by omega) es j ?_).trans (a2 j hj)⟩
      have := lm_K7 (c := c) (l := l) (r := r) (n := n) (q := s) (by omega)
      omega
theorem lm_yAll {p : Int32} (h40 : n ≤ 40) (hcode : ∀ p, p < n → ∃ j : Nat, j < 16 ∧ c p = nI j) (post : SY → Prop)
    (hp : ∀ (p : Int32) (va o vw : Nat → Int32), (∀ s, s < 64 → lm_Vw vw o s (lm_K c l r n s) (lm_G c l r n s)) → post (nI n, p, c, l, r, va, o, vw)) :
    wpY_runAll post (nI n, p, c, l, r, va, o, vw) := by
  unfold wpY_runAll
  exact ⟨65, lm_yAllL h40 hcode post hp 64 0 65 p va o vw (by omega) (by omega) (fun s h => absurd h (Nat.not_lt_zero s))⟩
end
end
section
/-! views compared by the reference; counts in lockstep -/
section
variable {f1 f2 p : Int32} {c l r t w ev vv vl la va o vw : Nat → Int32} {n2 : Int32} {K : Nat → Nat} {G : Nat → Nat → Int32}
theorem lm_ySameL {a b : Nat} (ha : a < 64) (hb : b < 64) (h7 : K a ≤ 7) (e : K a = K b) (hA : lm_Vw vw o a (K a) (G a)) (hB : lm_Vw vw o b (K b) (G b)) (post : Int32 → Prop) (h1 : lm_sv K G a b → post 1) (h0 : ¬ lm_sv K G a b → post 0) :
    ∀ d j f : Nat, j + d = K a → d < f → (∀ i, i < j → G a i = G b i) → wY_same_19 post (nI a) (nI b) n2 p c l r va o vw f (nI j) := by
  intro d
  induction d with
  | zero =>
    intro j f hj hf hg
    obtain ⟨f, rfl⟩ := lm_f1 hf
    refine ⟨lm_v64 ha, ?_⟩
    rw [lm_cl (q := a) (by omega), hA.1]
    exact pk_le (K a) j (fun _ => h1 ⟨e, fun i hi => hg i (by omega)⟩) (fun z => by omega)
  | succ d ih =>
    intro j f hj hf hg
    obtain ⟨f, rfl⟩ := lm_f1 hf
    refine ⟨lm_v64 ha, ?_⟩
    rw [lm_cl (q := a) (by omega), hA.1]
    refine pk_le (K a) j (fun z => by omega) (fun _ => ?_)
    rw [lm_i7', lm_i7', lm_cl (q := 7 * a + j) (by omega), lm_cl (q := 7 * b + j) (by omega), hA.2 j (by omega), hB.2 j (by omega)]
    refine ⟨vp_in_nI (by omega) (by omega), vp_in_nI (by omega) (by omega), br_c (fun z => nm_r (nI_1 j) (ih (j + 1) f (by omega) (by omega) ?_)) (fun z => h0 ?_)⟩
    · intro i hi
      by_cases ei : i = j
      · rw [ei]; exact z
      · exact hg i (by omega)
    · exact fun s => z (s.2 j (by omega))
theorem lm_ySame {a b : Nat} (ha : a < 64) (hb : b < 64) (h7 : ∀ s, s < 64 → K s ≤ 7) (hV : ∀ s, s < 64 → lm_Vw vw o s (K s) (G s)) (post : Int32 → Prop) (h1 : lm_sv K G a b → post 1) (h0 : ¬ lm_sv K G a b → post 0) :
    wpY_same post (n2, p, c, l, r, va, o, vw) (nI a) (nI b) := by
  have x7 := h7 a ha
  have y7 := h7 b hb
  unfold wpY_same
  refine ⟨lm_v64 ha, lm_v64 hb, ?_⟩
  rw [lm_cl (q := a) (by omega), lm_cl (q := b) (by omega), (hV a ha).1, (hV b hb).1]
  refine pk_eq (K a) (K b) (fun z => ⟨K a + 1, ?_⟩) (fun z => h0 (fun s => z s.1))
  exact lm_ySameL ha hb x7 z (hV a ha) (hV b hb) post h1 h0 (K a) 0 (K a + 1) (by omega) (by omega) (fun i hi => absurd hi (Nat.not_lt_zero i))
theorem lm_yLeast {q x : Nat} {y : Int32} (hq : q < 64) (hy : y &&& 63 = nI q) (hL : lm_Ls K G q x) (h7 : ∀ s, s < 64 → K s ≤ 7) (hV : ∀ s, s < 64 → lm_Vw vw o s (K s) (G s)) (post : Int32 → SY → Prop) (h : post (nI x) (n2, p, c, l, r, va, o, vw)) :
    ∀ d j f : Nat, j + d = x → d < f → wY_least_6 post y n2 p c l r va o vw f (nI j) := by
  have hx := hL.1
  intro d
  induction d with
  | zero =>
    intro j f hj hf
    obtain ⟨f, rfl⟩ := lm_f1 hf
    have ej : j = x := by omega
    subst ej
    refine pk_le 64 j (fun z => by omega) (fun _ => ?_)
    rw [hy]
    exact lm_ySame (K := K) (G := G) (by omega) hq h7 hV _ (fun _ => br_f (by decide) h) (fun z => absurd hL.2.1 z)
  | succ d ih =>
    intro j f hj hf
    obtain ⟨f, rfl⟩ := lm_f1 hf
    refine pk_le 64 j (fun z => by omega) (fun _ => ?_)
    rw [hy]
    exact lm_ySame (K := K) (G := G) (by omega) hq h7 hV _ (fun z => absurd z (hL.2.2 j (by omega))) (fun _ => br_t rfl (nm_r (nI_1 j) (ih (j + 1) f (by omega) (by omega))))
theorem lm_alike {q x : Nat} {y : Int32} (hq : q < 64) (hy : y &&& 63 = nI q) (hx : lm_Ls K G q x) (hL : ∀ s, s < 64 → ∃ x : Nat, la s = nI x ∧ lm_Ls K G s x) (h7 : ∀ s, s < 64 → K s ≤ 7) :
    ∀ (d j : Nat) (m : Int32), j + d = 64 → ∃ z : Int32, (∀ post : Int32 → Prop, post z → wX_alike_15 post (nI x) f1 f2 c l r t w ev vv vl la (d + 1) m (nI j)) ∧ (∀ (n2 p : Int32) (c2 l2 r2 va o vw : Nat → Int32), (∀ s, s < 64 → lm_Vw vw o s (K s) (G s)) → ∀ post : Int32 → SY → Prop, post z (n2, p, c2, l2, r2, va, o, vw) → wY_alike_8 post y n2 p c2 l2 r2 va o vw (d + 1) m (nI j)) := by
  intro d
  induction d with
  | zero =>
    intro j m hj
    exact ⟨m, fun post hp => pk_le 64 j (fun _ => hp) (fun z => by omega), fun n2 p c2 l2 r2 va o vw hV post hp => pk_le 64 j (fun _ => hp) (fun z => by omega)⟩
  | succ d ih =>
    intro j m hj
    have hj64 : j < 64 := by omega
    obtain ⟨xj, ej, hxj⟩ := hL j hj64
    have cj : (nI j).toNatClampNeg = j := lm_cl (by omega)
    have i := lm_LsI hxj hx
    by_cases hs : lm_sv K G j q
    · obtain ⟨z, hX, hY⟩ := ih (j + 1) (m + 1) (by omega)
      refine ⟨z, fun post hp => pk_le 64 j (fun z => by omega) (fun _ => ⟨lm_v64 hj64, ?_⟩), fun n2 p c2 l2 r2 va o vw hV post hp => pk_le 64 j (fun z => by omega) (fun _ => ?_)⟩
      · rw [cj, ej]
        exact br_t (by rw [i.mpr hs]) (nm_e (nm_r (nI_1 j) (hX post hp)))
      · rw [hy]
        exact lm_ySame (K := K) (G := G) hj64 hq h7 hV _ (fun _ => br_f (by decide) (nm_e (nm_r (nI_1 j) (hY n2 p c2 l2 r2 va o vw hV post hp)))) (fun g => absurd hs g)
    · obtain ⟨z, hX, hY⟩ := ih (j + 1) m (by omega)
      refine ⟨z, fun post hp => pk_le 64 j (fun z => by omega) (fun _ => ⟨lm_v64 hj64, ?_⟩), fun n2 p c2 l2 r2 va o vw hV post hp => pk_le 64 j (fun z => by omega) (fun _ => ?_)⟩
      · rw [cj, ej]
        have l1 := hxj.1
        have l2 := hx.1
        exact br_f (fun g => hs (i.mp ((nI_eq (by omega) (by omega)).mp g))) (nm_r (nI_1 j) (hX post hp))
      · rw [hy]
        exact lm_ySame (K := K) (G := G) hj64 hq h7 hV _ (fun g => absurd g hs) (fun _ => br_t rfl (nm_r (nI_1 j) (hY n2 p c2 l2 r2 va o vw hV post hp)))
/-- s is the first of its view from a on -/
def lm_Fi (K : Nat → Nat) (G : Nat → Nat → Int32) (a s : Nat) : Prop := ∀ u, a ≤ u → u < s → ¬ lm_sv K G u s
theorem lm_xIsF {a s : Nat} (hs : s < 64) (hL : ∀ s, s < 64 → ∃ x : Nat, la s = nI x ∧ lm_Ls K G s x) (post : Int32 → Prop) (h1 : lm_Fi K G a s → post 1) (h0 : ¬ lm_Fi K G a s → post 0) :
    ∀ d j f : Nat, j + d = s → d < f → a ≤ j → (∀ u, a ≤ u → u < j → ¬ lm_sv K G u s) → wX_isFirstOfItsView_2 post (nI s) f1 f2 c l r t w ev vv vl la f (nI j) := by
  obtain ⟨xs, es, hxs⟩ := hL s hs
  have l1 := hxs.1
  have cs : (nI s).toNatClampNeg = s := lm_cl (by omega)
  intro d
  induction d with
  | zero =>
    intro j f hj hf ha hu
    obtain ⟨f, rfl⟩ := lm_f1 hf
    exact pk_le s j (fun _ => h1 (fun u a1 a2 => hu u a1 (by omega))) (fun z => by omega)
  | succ d ih =>
    intro j f hj hf ha hu
    obtain ⟨f, rfl⟩ := lm_f1 hf
    obtain ⟨xj, ej, hxj⟩ := hL j (by omega)
    have l2 := hxj.1
    have i := lm_LsI hxj hxs
    have cj : (nI j).toNatClampNeg = j := lm_cl (by omega)
    refine pk_le s j (fun z => by omega) (fun _ => ⟨lm_v64 (by omega), lm_v64 hs, ?_⟩)
    rw [cj, cs, ej, es]
    refine pk_eq xj xs (fun z => h0 (fun g => g j ha (by omega) (i.mp z))) (fun z => nm_r (nI_1 j) (ih (j + 1) f (by omega) (by omega) (by omega) ?_))
    intro u a1 a2
    by_cases e : u = j
    · rw [e]; exact fun g => z (i.mpr g)
    · exact hu u a1 (by omega)
theorem lm_yIn {a s : Nat} {y1 y2 m : Int32} (hs : s < 64) (h7 : ∀ s, s < 64 → K s ≤ 7) (hV : ∀ s, s < 64 → lm_Vw vw o s (K s) (G s)) (post : Int32 → Prop) (J : Int32 → Int32 → Prop) (h1 : lm_Fi K G a s → J (m + 1) (nI (s + 1))) (h0 : ¬ lm_Fi K G a s → J m (nI (s + 1))) :
    ∀ (d j f : Nat) (y : Int32), j + d = s → d < f → a ≤ j → ((y = 1 ∧ ∀ u, a ≤ u → u < j → ¬ lm_sv K G u s) ∨ (y = 0 ∧ ¬ lm_Fi K G a s)) → wY_different_17 post J y1 y2 m (nI s) n2 p c l r va o vw f y (nI j) := by
  intro d
  induction d with
  | zero =>
    intro j f y hj hf ha hu
    obtain ⟨f, rfl⟩ := lm_f1 hf
    refine pk_le s j (fun _ => ?_) (fun z => by omega)
    rcases hu with ⟨ey, hu⟩ | ⟨ey, hu⟩
    · subst ey
      exact br_f (by decide) (nm_e (nm_r (nI_1 s) (h1 (fun u a1 a2 => hu u a1 (by omega)))))
    · subst ey
      exact br_t rfl (nm_r (nI_1 s) (h0 hu))
  | succ d ih =>
    intro j f y hj hf ha hu
    obtain ⟨f, rfl⟩ := lm_f1 hf
    refine pk_le s j (fun z => by omega) (fun _ => lm_ySame (K := K) (G := G) hs (by omega) h7 hV _ (fun z => ?_) (fun z => ?_))
    · exact br_f (by decide) (nm_r (nI_1 j) (ih (j + 1) f 0 (by omega) (by omega) (by omega) (Or.inr ⟨rfl, fun g => g j ha (by omega) (lm_svS z)⟩)))
    · refine br_t rfl (nm_r (nI_1 j) (ih (j + 1) f y (by omega) (by omega) (by omega) ?_))
      rcases hu with ⟨ey, hu⟩ | hu
      · refine Or.inl ⟨ey, fun u a1 a2 => ?_⟩
        by_cases e : u = j
        · rw [e]; exact fun g => z (lm_svS g)
        · exact hu u a1 (by omega)
      · exact Or.inr hu
theorem lm_diffL {a b : Nat} (hb : b < 64) (hL : ∀ s, s < 64 → ∃ x : Nat, la s = nI x ∧ lm_Ls K G s x) (h7 : ∀ s, s < 64 → K s ≤ 7) :
    ∀ (d s : Nat) (m : Int32), a ≤ s → s + d = b + 1 → ∃ z : Int32, (∀ post : Int32 → Prop, post z → wX_differentViews_5 post (nI a) (nI b) f1 f2 c l r t w ev vv vl la (d + 1) m (nI s)) ∧ (∀ (n2 p : Int32) (c2 l2 r2 va o vw : Nat → Int32), (∀ s, s < 64 → lm_Vw vw o s (K s) (G s)) → ∀ post : Int32 → Prop, post z → wY_different_5 post (nI a) (nI b) n2 p c2 l2 r2 va o vw (d + 1) m (nI s)) := by
  intro d
  induction d with
  | zero =>
    intro s m ha hs
    exact ⟨m, fun post hp => pk_lt b s (fun _ => hp) (fun z => by omega), fun n2 p c2 l2 r2 va o vw hV post hp => pk_lt b s (fun _ => hp) (fun z => by omega)⟩
  | succ d ih =>
    intro s m ha hs
    have hs64 : s < 64 := by omega
    have key : ∀ m' : Int32, (lm_Fi K G a s → m' = m + 1) → (¬ lm_Fi K G a s → m' = m) → ∃ z : Int32, (∀ post : Int32 → Prop, post z → wX_differentViews_5 post (nI a) (nI b) f1 f2 c l r t w ev vv vl la (d + 1 + 1) m (nI s)) ∧ (∀ (n2 p : Int32) (c2 l2 r2 va o vw : Nat → Int32), (∀ s, s < 64 → lm_Vw vw o s (K s) (G s)) → ∀ post : Int32 → Prop, post z → wY_different_5 post (nI a) (nI b) n2 p c2 l2 r2 va o vw (d + 1 + 1) m (nI s)) := by
      intro m' e1 e0
      obtain ⟨z, hX, hY⟩ := ih (s + 1) m' (by omega) (by omega)
      refine ⟨z, fun post hp => pk_lt b s (fun z => by omega) (fun _ => ?_), fun n2 p c2 l2 r2 va o vw hV post hp => pk_lt b s (fun z => by omega) (fun _ => ?_)⟩
      · unfold wpX_isFirstOfItsView
        refine ⟨s + 1, lm_xIsF (K := K) (G := G) (a := a) hs64 hL _ (fun g => ?_) (fun g => ?_) (s - a) a (s + 1) (by omega) (by omega) (Nat.le_refl a) (fun u a1 a2 => by omega)⟩
        · exact br_f (by decide) (nm_r (e1 g).symm (nm_r (nI_1 s) (hX post hp)))
        · have H := hX post hp
          rw [e0 g] at H
          exact br_t rfl (nm_r (nI_1 s) H)
      · refine ⟨s + 1, lm_yIn (K := K) (G := G) (a := a) hs64 h7 hV post _ (fun g => ?_) (fun g => ?_) (s - a) a (s + 1) 1 (by omega) (by omega) (Nat.le_refl a) (Or.inl ⟨rfl, fun u a1 a2 => by omega⟩)⟩
        · have H := hY n2 p c2 l2 r2 va o vw hV post hp
          rw [e1 g] at H
          exact H
        · have H := hY n2 p c2 l2 r2 va o vw hV post hp
          rw [e0 g] at H
          exact H
    by_cases hF : lm_Fi K G a s
    · exact key (m + 1) (fun _ => rfl) (fun g => absurd hF g)
    · exact key m (fun g => absurd g hF) (fun _ => rfl)
theorem lm_diff {a b : Nat} (hab : a ≤ b) (hb : b < 64) (hL : ∀ s, s < 64 → ∃ x : Nat, la s = nI x ∧ lm_Ls K G s x) (h7 : ∀ s, s < 64 → K s ≤ 7) :
    ∃ z : Int32, (∀ post : Int32 → Prop, post z → wpX_differentViews post (f1, f2, c, l, r, t, w, ev, vv, vl, la) (nI a) (nI b)) ∧ (∀ (n2 p : Int32) (c2 l2 r2 va o vw : Nat → Int32), (∀ s, s < 64 → lm_Vw vw o s (K s) (G s)) → ∀ post : Int32 → Prop, post z → wpY_different post (n2, p, c2, l2, r2, va, o, vw) (nI a) (nI b)) := by
  obtain ⟨z, hX, hY⟩ := lm_diffL (f1 := f1) (f2 := f2) (c := c) (l := l) (r := r) (t := t) (w := w) (ev := ev) (vv := vv) (vl := vl) (a := a) hb hL h7 (b + 1 - a) a 0 (Nat.le_refl a) (by omega)
  refine ⟨z, fun post hp => ?_, fun n2 p c2 l2 r2 va o vw hV post hp => ?_⟩
  · unfold wpX_differentViews
    exact ⟨_, hX post hp⟩
  · unfold wpY_different
    exact ⟨_, hY n2 p c2 l2 r2 va o vw hV post hp⟩
end
end
section
/-! what is owed -/
/-- the same statements on both sides, X's places tied to them, X's results their pure picture -/
def i_Rel (k : Nat) (u : SX) (v : SY) : Prop := ∃ (n op : Nat) (c l r t w ev vv vl la va o vw : Nat → Int32) (p : Int32), u = (nI n, nI op, c, l, r, t, w, ev, vv, vl, la) ∧ v = (nI n, p, c, l, r, va, o, vw) ∧ lm_Tie n op c t w ∧ lm_Pc c l r n ev vv vl la
theorem lm_mk {k n op : Nat} {c l r t w ev vv vl la va o vw : Nat → Int32} {p : Int32} (T : lm_Tie n op c t w) (h : lm_Pc c l r n ev vv vl la) : i_Rel k (nI n, nI op, c, l, r, t, w, ev, vv, vl, la) (nI n, p, c, l, r, va, o, vw) := ⟨n, op, c, l, r, t, w, ev, vv, vl, la, va, o, vw, p, rfl, rfl, T, h⟩
theorem i_up {k : Nat} {u : SX} {v : SY} (h : i_Rel k u v) : i_Rel (k + 4) u v := h
theorem i_vc0 : wpX_init (fun u => wpY_init (fun v => i_Rel 0 u v)) := by
  unfold wpX_init
  exact lm_xMeas lm_tie0 _ (fun ev vv vl la h => lm_mk (k := 0) lm_tie0 h)
theorem i_vc_clear {k : Nat} {u : SX} {v : SY} (I : i_Rel k u v) (hk : k + 4 ≤ 2048) : wpX_clear (fun u' => wpY_clear (fun v' => i_Rel (k + 4) u' v') v) u := by
  obtain ⟨n, op, c, l, r, t, w, ev, vv, vl, la, va, o, vw, p, rfl, rfl, T, P⟩ := I
  unfold wpX_clear
  exact lm_xMeas (lm_tieC c t w) _ (fun ev' vv' vl' la' h => lm_mk (k := k + 4) (lm_tieC c t w) h)
theorem i_vc_open {k : Nat} {u : SX} {v : SY} (I : i_Rel k u v) (hk : k + 4 ≤ 2048) : wpX_open (fun r => wpY_open (fun r' => r' = r ∧ i_Rel (k + 4) u v) v) u := by
  have I2 := I
  obtain ⟨n, op, c, l, r, t, w, ev, vv, vl, la, va, o, vw, p, rfl, rfl, T, P⟩ := I
  unfold wpX_open
  exact lm_yOpen T.1 _ ⟨T.2.2.1, I2⟩
theorem i_vc_classes {k : Nat} {u : SX} {v : SY} (I : i_Rel k u v) (hk : k + 4 ≤ 2048) : wpX_classes (fun r => wpY_classes (fun r' v' => r' = r ∧ i_Rel (k + 4) u v') v) u := by
  obtain ⟨n, op, c, l, r, t, w, ev, vv, vl, la, va, o, vw, p, rfl, rfl, T, P⟩ := I
  obtain ⟨z, hX, hY⟩ := lm_diff (f1 := nI n) (f2 := nI op) (c := c) (l := l) (r := r) (t := t) (w := w) (ev := ev) (vv := vv) (vl := vl) (a := 0) (b := 63) (by omega) (by omega) P.2 (fun s hs => lm_K7 hs)
  unfold wpX_classes
  refine hX _ ?_
  unfold wpY_classes
  refine lm_yAll T.1 T.2.2.2.1 _ (fun p' va' o' vw' hV => ?_)
  exact hY _ _ _ _ _ _ _ _ hV _ ⟨rfl, lm_mk T P⟩
theorem i_vc_guessed {k : Nat} {u : SX} {v : SY} (I : i_Rel k u v) (hk : k + 4 ≤ 2048) (v1 : Int32) (v2 : Int32) : wpX_guessed (fun r => wpY_guessed (fun r' v' => r' = r ∧ i_Rel (k + 4) u v') v v1 v2) u v1 v2 := by
  obtain ⟨n, op, c, l, r, t, w, ev, vv, vl, la, va, o, vw, p, rfl, rfl, T, P⟩ := I
  obtain ⟨a, ha, ea⟩ := lm_63 v1
  obtain ⟨b, hb, eb⟩ := lm_63 v2
  unfold wpX_guessed
  refine nm_r ea (nm_r eb ?_)
  refine pk_lt b a (fun z => ?_) (fun z => ?_)
  · obtain ⟨y, hX, hY⟩ := lm_diff (f1 := nI n) (f2 := nI op) (c := c) (l := l) (r := r) (t := t) (w := w) (ev := ev) (vv := vv) (vl := vl) (a := b) (b := a) (by omega) ha P.2 (fun s hs => lm_K7 hs)
    refine hX _ ?_
    unfold wpY_guessed
    refine lm_yAll T.1 T.2.2.2.1 _ (fun p' va' o' vw' hV => nm_r ea (nm_r eb ?_))
    refine pk_le b a (fun _ => ?_) (fun x => by omega)
    exact hY _ _ _ _ _ _ _ _ hV _ ⟨rfl, lm_mk T P⟩
  · obtain ⟨y, hX, hY⟩ := lm_diff (f1 := nI n) (f2 := nI op) (c := c) (l := l) (r := r) (t := t) (w := w) (ev := ev) (vv := vv) (vl := vl) (a := a) (b := b) z hb P.2 (fun s hs => lm_K7 hs)
    refine hX _ ?_
    unfold wpY_guessed
    refine lm_yAll T.1 T.2.2.2.1 _ (fun p' va' o' vw' hV => nm_r ea (nm_r eb ?_))
    refine pk_le b a (fun x => ?_) (fun _ => ?_)
    · have e : a = b := by omega
      subst e
      exact hY _ _ _ _ _ _ _ _ hV _ ⟨rfl, lm_mk T P⟩
    · exact hY _ _ _ _ _ _ _ _ hV _ ⟨rfl, lm_mk T P⟩
theorem i_vc_least {k : Nat} {u : SX} {v : SY} (I : i_Rel k u v) (hk : k + 4 ≤ 2048) (v1 : Int32) : wpX_least (fun r => wpY_least (fun r' v' => r' = r ∧ i_Rel (k + 4) u v') v v1) u v1 := by
  obtain ⟨n, op, c, l, r, t, w, ev, vv, vl, la, va, o, vw, p, rfl, rfl, T, P⟩ := I
  obtain ⟨a, ha, ea⟩ := lm_63 v1
  obtain ⟨x, ex, hx⟩ := P.2 a ha
  unfold wpX_least
  rw [ea, lm_cl (q := a) (by omega)]
  refine ⟨lm_v64 ha, ?_⟩
  rw [ex]
  unfold wpY_least
  refine lm_yAll T.1 T.2.2.2.1 _ (fun p' va' o' vw' hV => ⟨x + 1, ?_⟩)
  exact lm_yLeast ha ea hx (fun s hs => lm_K7 hs) hV _ ⟨rfl, lm_mk T P⟩ x 0 (x + 1) (by omega) (by omega)
theorem i_vc_alike {k : Nat} {u : SX} {v : SY} (I : i_Rel k u v) (hk : k + 4 ≤ 2048) (v1 : Int32) : wpX_alike (fun r => wpY_alike (fun r' v' => r' = r ∧ i_Rel (k + 4) u v') v v1) u v1 := by
  obtain ⟨n, op, c, l, r, t, w, ev, vv, vl, la, va, o, vw, p, rfl, rfl, T, P⟩ := I
  obtain ⟨a, ha, ea⟩ := lm_63 v1
  obtain ⟨x, ex, hx⟩ := P.2 a ha
  obtain ⟨z, hX, hY⟩ := lm_alike (f1 := nI n) (f2 := nI op) (c := c) (l := l) (r := r) (t := t) (w := w) (ev := ev) (vv := vv) (vl := vl) ha ea hx P.2 (fun s hs => lm_K7 hs) 64 0 0 (by omega)
  unfold wpX_alike
  rw [ea, lm_cl (q := a) (by omega)]
  refine ⟨lm_v64 ha, nm_r ex ⟨65, hX _ ?_⟩⟩
  unfold wpY_alike
  refine lm_yAll T.1 T.2.2.2.1 _ (fun p' va' o' vw' hV => ⟨65, ?_⟩)
  exact hY _ _ _ _ _ _ _ _ hV _ ⟨rfl, lm_mk T P⟩
theorem i_vc_outputs {k : Nat} {u : SX} {v : SY} (I : i_Rel k u v) (hk : k + 4 ≤ 2048) (v1 : Int32) : wpX_outputs (fun r => wpY_outputs (fun r' v' => r' = r ∧ i_Rel (k + 4) u v') v v1) u v1 := by
  obtain ⟨n, op, c, l, r, t, w, ev, vv, vl, la, va, o, vw, p, rfl, rfl, T, P⟩ := I
  obtain ⟨a, ha, ea⟩ := lm_63 v1
  unfold wpX_outputs wpY_outputs
  rw [ea, lm_cl (q := a) (by omega)]
  refine ⟨lm_v64 ha, lm_yRun T.1 T.2.2.2.1 ha _ (fun k' va' vw' ek hA hO hF => ⟨lm_v64 ha, ?_, lm_mk T P⟩)⟩
  rw [pk_us, ((P.1 a ha).2).1, ek]
theorem i_vc_output {k : Nat} {u : SX} {v : SY} (I : i_Rel k u v) (hk : k + 4 ≤ 2048) (v1 : Int32) (v2 : Int32) : wpX_output (fun r => wpY_output (fun r' v' => r' = r ∧ i_Rel (k + 4) u v') v v1 v2) u v1 v2 := by
  obtain ⟨n, op, c, l, r, t, w, ev, vv, vl, la, va, o, vw, p, rfl, rfl, T, P⟩ := I
  obtain ⟨a, ha, ea⟩ := lm_63 v1
  have h7 := lm_K7 (c := c) (l := l) (r := r) (n := n) ha
  obtain ⟨q1, q2⟩ := (P.1 a ha).2
  unfold wpX_output wpY_output
  rw [ea]
  refine nm_e ?_
  rw [lm_cl (q := a) (by omega), q1]
  by_cases h0 : v2 < 0
  · exact br_t h0 (lm_yRun T.1 T.2.2.2.1 ha _ (fun k' va' vw' ek hA hO hF => br_t h0 ⟨rfl, lm_mk T P⟩))
  · obtain ⟨j, hj, rfl⟩ := nI_of h0
    refine br_f h0 ⟨lm_v64 ha, pk_lt j (lm_K c l r n a) (fun z => ?_) (fun z => ?_)⟩
    · rw [lm_i7, lm_i7', lm_cl (q := 7 * a + j) (by omega), q2 j z]
      refine ⟨vp_in_nI (by omega) (by omega), lm_yRun T.1 T.2.2.2.1 ha _ (fun k' va' vw' ek hA hO hF => br_f h0 ⟨lm_v64 ha, ?_⟩)⟩
      rw [pk_us, ek]
      refine pk_lt j (lm_K c l r n a) (fun _ => ⟨vp_in_nI (by omega) (by omega), ?_, lm_mk T P⟩) (fun x => by omega)
      exact hO j (by omega)
    · refine lm_yRun T.1 T.2.2.2.1 ha _ (fun k' va' vw' ek hA hO hF => br_f h0 ⟨lm_v64 ha, ?_⟩)
      rw [pk_us, ek]
      exact pk_lt j (lm_K c l r n a) (fun x => by omega) (fun _ => ⟨rfl, lm_mk T P⟩)
theorem i_vc_end {k : Nat} {u : SX} {v : SY} (I : i_Rel k u v) (hk : k + 4 ≤ 2048) (v1 : Int32) (v2 : Int32) : wpX_end (fun r => wpY_end (fun r' v' => r' = r ∧ i_Rel (k + 4) u v') v v1 v2) u v1 v2 := by
  obtain ⟨n, op, c, l, r, t, w, ev, vv, vl, la, va, o, vw, p, rfl, rfl, T, P⟩ := I
  obtain ⟨a, ha, ea⟩ := lm_63 v1
  have hi := lm_ix_lt v2
  unfold wpX_end wpY_end
  rw [ea, lm_ix_eq v2, lm_i4, lm_cl (q := 4 * a + lm_ix v2) (by omega), lm_cl (q := lm_ix v2) (by omega)]
  refine ⟨vp_in_nI (by omega) (by omega), lm_yRun T.1 T.2.2.2.1 ha _ (fun k' va' vw' ek hA hO hF => ⟨vp_in_nI hi (by omega), (hA _ hi).trans ((P.1 a ha).1 _ hi).symm, lm_mk T P⟩)⟩
end
section
/-! add -/
section
variable {n op : Nat} {c l r t w ev vv vl la va o vw : Nat → Int32} {p : Int32}
theorem lm_xAdd0 {x y z : Int32} (hH : ∀ Q : Int32 → Prop, Q 0 → wpX_hasPlace Q (nI n, nI op, c, l, r, t, w, ev, vv, vl, la) x) (post : Int32 → SX → Prop) (h : post (-1) (nI n, nI op, c, l, r, t, w, ev, vv, vl, la)) : wpX_add post (nI n, nI op, c, l, r, t, w, ev, vv, vl, la) x y z := by
  unfold wpX_add
  exact hH _ (br_t rfl h)
theorem lm_xAdd1 {op' : Nat} {t' w' : Nat → Int32} {x y z : Int32} (hn : n < 40) (hH : ∀ Q : Int32 → Prop, Q 1 → wpX_hasPlace Q (nI n, nI op, c, l, r, t, w, ev, vv, vl, la) x)
    (hT : ∀ Q : SX → Prop, Q (nI n, nI op', upd c n x, upd l n y, upd r n z, t', w', ev, vv, vl, la) → wpX_tieToPart Q (nI n, nI op, upd c n x, upd l n y, upd r n z, upd t n 40, w, ev, vv, vl, la) x (nI n))
    (T' : lm_Tie (n + 1) op' (upd c n x) t' w') (post : Int32 → SX → Prop)
    (h : ∀ ev' vv' vl' la' : Nat → Int32, lm_Pc (upd c n x) (upd l n y) (upd r n z) (n + 1) ev' vv' vl' la' → post (nI (n + 1)) (nI (n + 1), nI op', upd c n x, upd l n y, upd r n z, t', w', ev', vv', vl', la')) :
    wpX_add post (nI n, nI op, c, l, r, t, w, ev, vv, vl, la) x y z := by
  have vn : vp_in (nI n) 40 := lm_v40 hn
  unfold wpX_add
  refine hH _ (br_f (by decide) ?_)
  rw [lm_cl (q := n) (by omega)]
  refine ⟨vn, nm_e ⟨vn, nm_e ⟨vn, nm_e ⟨vn, nm_e (hT _ (nm_r (nI_1 n) (lm_xMeas T' _ (fun ev' vv' vl' la' hP => h ev' vv' vl' la' hP))))⟩⟩⟩⟩
theorem lm_y73 {x y z : Int32} (hn : n < 40) (post : Int32 → SY → Prop) (h : post (nI (n + 1)) (nI (n + 1), p, upd c n x, upd l n y, upd r n z, va, o, vw)) : wY_add_73 post x y z (nI n) p c l r va o vw := by
  have vn : vp_in (nI n) 40 := lm_v40 hn
  unfold wY_add_73
  rw [lm_cl (q := n) (by omega)]
  exact ⟨vn, nm_e ⟨vn, nm_e ⟨vn, nm_e (nm_r (nI_1 n) h)⟩⟩⟩
/-- X's way into the codes 13 to 15 -/
theorem lm_xHas {j : Nat} (h13 : 13 ≤ j) (hj : j < 16) (hn : n < 40) (Q : Int32 → Prop)
    (h1 : j = 13 → (4 ≤ op → Q 0) ∧ (op < 4 → Q 1)) (h2 : j = 14 → op = 0 → Q 0) (h3 : j = 14 → 0 < op → ∃ i : Nat, i < n ∧ w (op - 1) = nI i ∧ (c i = 13 → Q 1) ∧ (c i ≠ 13 → Q 0)) (h4 : j = 15 → (op = 0 → Q 0) ∧ (0 < op → Q 1)) (ho : op ≤ 4) :
    wpX_hasPlace Q (nI n, nI op, c, l, r, t, w, ev, vv, vl, la) (nI j) := by
  unfold wpX_hasPlace
  have a15 : ¬ (15 : Int32) < nI j := nI_nlt (a := 15) (b := j) (by omega) (by omega)
  refine br_f (nI_pos (by omega)) (br_f a15 (br_t (nI_lt (b := 40) hn (by omega)) (br_f (nI_nlt (a := j) (b := 13) h13 (by omega)) (br_f a15 ?_))))
  refine pk_eq j 13 (fun e => ?_) (fun e13 => ?_)
  · exact pk_le 4 op (fun z => (h1 e).1 z) (fun z => (h1 e).2 z)
  · refine pk_eq j 14 (fun e => ?_) (fun e14 => ?_)
    · refine pk_le op 0 (fun z => h2 e (by omega)) (fun z => ?_)
      obtain ⟨i, hi, ei, q1, q0⟩ := h3 e z
      obtain ⟨m, rfl⟩ : ∃ m, op = m + 1 := ⟨op - 1, by omega⟩
      have ei' : w m = nI i := ei
      rw [nI_pred, lm_cl (q := m) (by omega), ei', lm_cl (q := i) (by omega)]
      exact ⟨vp_in_nI (by omega) (by omega), lm_v40 (by omega), br_c q1 q0⟩
    · refine pk_eq j 15 (fun e => ?_) (fun _ => trivial)
      exact pk_le op 0 (fun z => (h4 e).1 (by omega)) (fun z => (h4 e).2 z)
theorem lm_xHasO {j : Nat} (hj : j < 13) (hn : n < 40) (Q : Int32 → Prop) (h : Q 1) : wpX_hasPlace Q (nI n, nI op, c, l, r, t, w, ev, vv, vl, la) (nI j) := by
  unfold wpX_hasPlace
  have a15 : ¬ (15 : Int32) < nI j := nI_nlt (a := 15) (b := j) (by omega) (by omega)
  exact br_f (nI_pos (by omega)) (br_f a15 (br_t (nI_lt (b := 40) hn (by omega)) (br_t (nI_lt (b := 13) hj (by omega)) h)))
theorem lm_xT13 (ho : op < 4) (Q : SX → Prop) (h : Q (nI n, nI (op + 1), c, l, r, t, upd w op (nI n), ev, vv, vl, la)) : wpX_tieToPart Q (nI n, nI op, c, l, r, t, w, ev, vv, vl, la) 13 (nI n) := by
  unfold wpX_tieToPart
  refine br_f (by decide) (br_f (by decide) (br_t rfl ⟨vp_in_nI (by omega) (by omega), ?_⟩))
  rw [lm_cl (q := op) (by omega)]
  exact nm_e (nm_r (nI_1 op) h)
theorem lm_xT14 {i : Nat} (ho : 0 < op) (ho4 : op ≤ 4) (hi : i < 40) (ei : w (op - 1) = nI i) (Q : SX → Prop) (h : Q (nI n, nI op, c, l, r, upd t i (nI (n + 1)), upd w (op - 1) (nI n), ev, vv, vl, la)) : wpX_tieToPart Q (nI n, nI op, c, l, r, t, w, ev, vv, vl, la) 14 (nI n) := by
  obtain ⟨m, rfl⟩ : ∃ m, op = m + 1 := ⟨op - 1, by omega⟩
  have ei' : w m = nI i := ei
  have vm : vp_in (nI m) 4 := vp_in_nI (by omega) (by omega)
  unfold wpX_tieToPart
  refine br_f (by decide) (br_f (by decide) (br_f (by decide) (br_t rfl ?_)))
  rw [nI_pred, lm_cl (q := m) (by omega), ei', lm_cl (q := i) (by omega), nI_1 n]
  exact ⟨vm, lm_v40 hi, nm_e ⟨vm, nm_e h⟩⟩
theorem lm_xT15 {i : Nat} (ho : 0 < op) (ho4 : op ≤ 4) (hi : i < 40) (ei : w (op - 1) = nI i) (Q : SX → Prop) (h : Q (nI n, nI (op - 1), c, l, r, upd t i (nI (n + 1)), w, ev, vv, vl, la)) : wpX_tieToPart Q (nI n, nI op, c, l, r, t, w, ev, vv, vl, la) 15 (nI n) := by
  obtain ⟨m, rfl⟩ : ∃ m, op = m + 1 := ⟨op - 1, by omega⟩
  have ei' : w m = nI i := ei
  have vm : vp_in (nI m) 4 := vp_in_nI (by omega) (by omega)
  unfold wpX_tieToPart
  refine br_f (by decide) (br_f (by decide) (br_f (by decide) (br_f (by decide) (br_t rfl (nm_r (nI_pred m) ?_)))))
  rw [lm_cl (q := m) (by omega), ei', lm_cl (q := i) (by omega), nI_1 n]
  exact ⟨vm, lm_v40 hi, nm_e h⟩
theorem lm_xTO {j : Nat} (hj : j < 13) (Q : SX → Prop) (h : Q (nI n, nI op, c, l, r, t, w, ev, vv, vl, la)) : wpX_tieToPart Q (nI n, nI op, c, l, r, t, w, ev, vv, vl, la) (nI j) (nI n) := by
  unfold wpX_tieToPart
  exact br_t (nI_lt (b := 13) hj (by omega)) h
end
theorem lm_addO {k n op j : Nat} {c l r t w ev vv vl la va o vw : Nat → Int32} {p y z : Int32} (T : lm_Tie n op c t w) (hn : n < 40) (hj : j < 13) : wpX_add (fun r1 u' => wpY_add (fun r' v' => r' = r1 ∧ i_Rel (k + 4) u' v') (nI n, p, c, l, r, va, o, vw) (nI j) y z) (nI n, nI op, c, l, r, t, w, ev, vv, vl, la) (nI j) y z := by
  have T' := lm_tieO T hn hj
  refine lm_xAdd1 hn (fun Q h => lm_xHasO hj hn Q h) (fun Q h => lm_xTO hj Q h) T' _ (fun ev' vv' vl' la' hP => ?_)
  have e13 : ¬ nI j = 13 := lm_ne (i := 13) (by omega) (by omega) (by omega)
  have e14 : ¬ nI j = 14 := lm_ne (i := 14) (by omega) (by omega) (by omega)
  have e15 : ¬ nI j = 15 := lm_ne (i := 15) (by omega) (by omega) (by omega)
  unfold wpY_add
  refine br_f (nI_pos (by omega)) (br_f (nI_nlt (a := 15) (b := j) (by omega) (by omega)) (br_f (fun g => ?_) (br_f e13 ?_)))
  · have := (nI_eq (a := n) (b := 40) (by omega) (by omega)).mp g
    omega
  · unfold wY_add_37 wY_add_58
    exact br_f e14 (br_f e15 (br_f e14 (lm_y73 hn _ ⟨rfl, lm_mk T' hP⟩)))
theorem lm_n40 {n : Nat} (hn : n < 40) : ¬ nI n = 40 := fun g => by
  have := (nI_eq (a := n) (b := 40) (by omega) (by omega)).mp g
  omega
theorem lm_addI {k n op : Nat} {c l r t w ev vv vl la va o vw : Nat → Int32} {p y z : Int32} (T : lm_Tie n op c t w) (P : lm_Pc c l r n ev vv vl la) (hn : n < 40) : wpX_add (fun r1 u' => wpY_add (fun r' v' => r' = r1 ∧ i_Rel (k + 4) u' v') (nI n, p, c, l, r, va, o, vw) 13 y z) (nI n, nI op, c, l, r, t, w, ev, vv, vl, la) 13 y z := by
  have ho := T.2.1
  by_cases h4 : op < 4
  · have T' := lm_tieI T hn h4
    refine lm_xAdd1 hn (fun Q h => lm_xHas (j := 13) (by omega) (by omega) hn Q (fun _ => ⟨fun g => absurd h4 (by omega), fun _ => h⟩) (fun g => absurd g (by omega)) (fun g => absurd g (by omega)) (fun g => absurd g (by omega)) ho) (fun Q h => lm_xT13 h4 Q h) T' _ (fun ev' vv' vl' la' hP => ?_)
    unfold wpY_add
    refine br_f (by decide) (br_f (by decide) (br_f (lm_n40 hn) (br_t rfl (lm_yOpen T.1 _ (br_f ?_ ?_)))))
    · rw [T.2.2.1]
      intro g
      have := (nI_eq (a := op) (b := 4) (by omega) (by omega)).mp g
      omega
    · unfold wY_add_37 wY_add_58
      exact br_f (by decide) (br_f (by decide) (br_f (by decide) (lm_y73 hn _ ⟨rfl, lm_mk T' hP⟩)))
  · refine lm_xAdd0 (fun Q h => lm_xHas (j := 13) (by omega) (by omega) hn Q (fun _ => ⟨fun _ => h, fun g => absurd g h4⟩) (fun g => absurd g (by omega)) (fun g => absurd g (by omega)) (fun g => absurd g (by omega)) ho) _ ?_
    unfold wpY_add
    refine br_f (by decide) (br_f (by decide) (br_f (lm_n40 hn) (br_t rfl (lm_yOpen T.1 _ (br_t ?_ ⟨rfl, lm_mk T P⟩)))))
    rw [T.2.2.1]
    have e : op = 4 := by omega
    rw [e]
    rfl
theorem lm_addE {k n op : Nat} {c l r t w ev vv vl la va o vw : Nat → Int32} {p y z : Int32} (T : lm_Tie n op c t w) (P : lm_Pc c l r n ev vv vl la) (hn : n < 40) : wpX_add (fun r1 u' => wpY_add (fun r' v' => r' = r1 ∧ i_Rel (k + 4) u' v') (nI n, p, c, l, r, va, o, vw) 14 y z) (nI n, nI op, c, l, r, t, w, ev, vv, vl, la) 14 y z := by
  have ho := T.2.1
  by_cases h0 : op = 0
  · refine lm_xAdd0 (fun Q h => lm_xHas (j := 14) (by omega) (by omega) hn Q (fun g => absurd g (by omega)) (fun _ _ => h) (fun _ g => absurd h0 (by omega)) (fun g => absurd g (by omega)) ho) _ ?_
    unfold wpY_add
    refine br_f (by decide) (br_f (by decide) (br_f (lm_n40 hn) (br_f (by decide) ?_)))
    unfold wY_add_37 wY_add_49
    refine br_t rfl (lm_yOpen T.1 _ (br_t ?_ ⟨rfl, lm_mk T P⟩))
    rw [T.2.2.1, h0]
    rfl
  · obtain ⟨i, hi, ei, hc, hS⟩ := lm_top T (by omega)
    have ne0 : ¬ lm_cn c n = 0 := by
      rw [T.2.2.1]
      exact nI_ne0 (by omega) (by omega)
    by_cases h13 : c i = 13
    · have T' := lm_tieE T hn (by omega) ei hi h13
      refine lm_xAdd1 hn (fun Q h => lm_xHas (j := 14) (by omega) (by omega) hn Q (fun g => absurd g (by omega)) (fun _ g => absurd g h0) (fun _ _ => ⟨i, hi, ei, fun _ => h, fun g => absurd h13 g⟩) (fun g => absurd g (by omega)) ho) (fun Q h => lm_xT14 (i := i) (by omega) ho (by omega) ei Q h) T' _ (fun ev' vv' vl' la' hP => ?_)
      unfold wpY_add
      refine br_f (by decide) (br_f (by decide) (br_f (lm_n40 hn) (br_f (by decide) ?_)))
      unfold wY_add_37 wY_add_49 wY_add_58
      refine br_t rfl (lm_yOpen T.1 _ (br_f ne0 (br_t rfl (lm_yElse T.1 hi hS _ (fun _ => br_t rfl ?_) (fun g => ?_) hc))))
      · exact lm_y73 hn _ ⟨rfl, lm_mk T' hP⟩
      · rw [h13] at g
        exact absurd g lm_d2
    · refine lm_xAdd0 (fun Q h => lm_xHas (j := 14) (by omega) (by omega) hn Q (fun g => absurd g (by omega)) (fun _ g => absurd g h0) (fun _ _ => ⟨i, hi, ei, fun g => absurd g h13, fun _ => h⟩) (fun g => absurd g (by omega)) ho) _ ?_
      unfold wpY_add
      refine br_f (by decide) (br_f (by decide) (br_f (lm_n40 hn) (br_f (by decide) ?_)))
      unfold wY_add_37 wY_add_49 wY_add_58
      exact br_t rfl (lm_yOpen T.1 _ (br_f ne0 (br_t rfl (lm_yElse T.1 hi hS _ (fun g => absurd g h13) (fun _ => br_f (by decide) ⟨rfl, lm_mk T P⟩) hc))))
theorem lm_addD {k n op : Nat} {c l r t w ev vv vl la va o vw : Nat → Int32} {p y z : Int32} (T : lm_Tie n op c t w) (P : lm_Pc c l r n ev vv vl la) (hn : n < 40) : wpX_add (fun r1 u' => wpY_add (fun r' v' => r' = r1 ∧ i_Rel (k + 4) u' v') (nI n, p, c, l, r, va, o, vw) 15 y z) (nI n, nI op, c, l, r, t, w, ev, vv, vl, la) 15 y z := by
  have ho := T.2.1
  by_cases h0 : op = 0
  · refine lm_xAdd0 (fun Q h => lm_xHas (j := 15) (by omega) (by omega) hn Q (fun g => absurd g (by omega)) (fun g => absurd g (by omega)) (fun g => absurd g (by omega)) (fun _ => ⟨fun _ => h, fun g => absurd h0 (by omega)⟩) ho) _ ?_
    unfold wpY_add
    refine br_f (by decide) (br_f (by decide) (br_f (lm_n40 hn) (br_f (by decide) ?_)))
    unfold wY_add_37 wY_add_49
    refine br_f (by decide) (br_t rfl (lm_yOpen T.1 _ (br_t ?_ ⟨rfl, lm_mk T P⟩)))
    rw [T.2.2.1, h0]
    rfl
  · obtain ⟨i, hi, ei, hc, hS⟩ := lm_top T (by omega)
    have ne0 : ¬ lm_cn c n = 0 := by
      rw [T.2.2.1]
      exact nI_ne0 (by omega) (by omega)
    have T' := lm_tieD T hn (by omega) ei hi
    refine lm_xAdd1 hn (fun Q h => lm_xHas (j := 15) (by omega) (by omega) hn Q (fun g => absurd g (by omega)) (fun g => absurd g (by omega)) (fun g => absurd g (by omega)) (fun _ => ⟨fun g => absurd g h0, fun _ => h⟩) ho) (fun Q h => lm_xT15 (i := i) (by omega) ho (by omega) ei Q h) T' _ (fun ev' vv' vl' la' hP => ?_)
    unfold wpY_add
    refine br_f (by decide) (br_f (by decide) (br_f (lm_n40 hn) (br_f (by decide) ?_)))
    unfold wY_add_37 wY_add_49 wY_add_58
    exact br_f (by decide) (br_t rfl (lm_yOpen T.1 _ (br_f ne0 (br_f (by decide) (lm_y73 hn _ ⟨rfl, lm_mk T' hP⟩)))))
theorem i_vc_add {k : Nat} {u : SX} {v : SY} (I : i_Rel k u v) (hk : k + 4 ≤ 2048) (v1 : Int32) (v2 : Int32) (v3 : Int32) : wpX_add (fun r u' => wpY_add (fun r' v' => r' = r ∧ i_Rel (k + 4) u' v') v v1 v2 v3) u v1 v2 v3 := by
  obtain ⟨n, op, c, l, r, t, w, ev, vv, vl, la, va, o, vw, p, rfl, rfl, T, P⟩ := I
  by_cases h0 : v1 < 0
  · refine lm_xAdd0 (fun Q h => ?_) _ ?_
    · unfold wpX_hasPlace
      exact br_t h0 h
    · unfold wpY_add
      exact br_t h0 ⟨rfl, lm_mk T P⟩
  · by_cases h15 : (15 : Int32) < v1
    · refine lm_xAdd0 (fun Q h => ?_) _ ?_
      · unfold wpX_hasPlace
        exact br_f h0 (br_t h15 h)
      · unfold wpY_add
        exact br_f h0 (br_t h15 ⟨rfl, lm_mk T P⟩)
    · obtain ⟨j, hj, rfl⟩ := nI_of2 (M := 15) (n := 15) (by decide) h0 (Int32.not_lt.mp h15)
      by_cases hn : n < 40
      · by_cases hj13 : j < 13
        · exact lm_addO T hn hj13
        · by_cases e13 : j = 13
          · subst e13
            exact lm_addI T P hn
          · by_cases e14 : j = 14
            · subst e14
              exact lm_addE T P hn
            · have e15 : j = 15 := by omega
              subst e15
              exact lm_addD T P hn
      · have en : n = 40 := by
          have := T.1
          omega
        subst en
        refine lm_xAdd0 (fun Q h => ?_) _ ?_
        · unfold wpX_hasPlace
          exact br_f h0 (br_f h15 (br_f (by decide) h))
        · unfold wpY_add
          exact br_f h0 (br_f h15 (br_t rfl ⟨rfl, lm_mk T P⟩))
end
