/-! the run of the program for one secret, as a pure fold over the statements -/
def lm_cp (c x y b : Int32) : Int32 :=
  if c = 0 then b else if c = 1 then y else if c = 2 then x + y else if c = 3 then x - y else if c = 4 then x * y
  else if c = 5 then x &&& y else if c = 6 then x ||| y else if c = 7 then x ^^^ y
  else if c = 8 then x <<< ((b &&& 7) &&& 31) else if c = 9 then x >>> ((b &&& 7) &&& 31)
  else if c = 10 then (if x < y then 1 else 0) else if c = 11 then (if x = y then 1 else 0) else x
def lm_wk (c x y b : Int32) : Int32 := lm_cp c x y b &&& 255
/-- the index of a variable -/
def lm_ix (x : Int32) : Nat := (x &&& 3).toNatClampNeg
theorem lm_ix_lt (x : Int32) : lm_ix x < 4 := by
  obtain ⟨j, hj, e⟩ := pk_andE x (m := 3) 2 (by decide)
  unfold lm_ix
  rw [e, nI_clamp (by omega)]
  exact hj
theorem lm_ix_eq (x : Int32) : x &&& 3 = nI (lm_ix x) := by
  obtain ⟨j, hj, e⟩ := pk_andE x (m := 3) 2 (by decide)
  unfold lm_ix
  rw [e, nI_clamp (by omega)]
/-- next, variables, number of outputs, outputs -/
abbrev lm_T : Type := Nat × (Nat → Int32) × Nat × (Nat → Int32)
def lm_ex (c l r : Nat → Int32) (n m : Nat) (s : lm_T) : lm_T :=
  if c m = 12 then (m + 1, s.2.1, if s.2.2.1 < 7 then s.2.2.1 + 1 else s.2.2.1, if s.2.2.1 < 7 then upd s.2.2.2 s.2.2.1 (s.2.1 (lm_ix (l m))) else s.2.2.2)
  else if c m = 13 then (if s.2.1 (lm_ix (l m)) = 0 then lm_B c n m else m + 1, s.2.1, s.2.2.1, s.2.2.2)
  else if c m = 14 then (lm_B c n m, s.2.1, s.2.2.1, s.2.2.2)
  else if c m = 15 then (m + 1, s.2.1, s.2.2.1, s.2.2.2)
  else (m + 1, upd s.2.1 (lm_ix (l m)) (lm_wk (c m) (s.2.1 (lm_ix (l m))) (s.2.1 (lm_ix (r m))) (r m)), s.2.2.1, s.2.2.2)
def lm_P (c l r : Nat → Int32) (n q : Nat) : Nat → lm_T
  | 0 => (0, fun j => if j = 0 then nI q else 0, 0, fun _ => 0)
  | m + 1 => if m < (lm_P c l r n q m).1 then lm_P c l r n q m else lm_ex c l r n m (lm_P c l r n q m)
theorem lm_PS {c l r : Nat → Int32} {n q m : Nat} (h : (lm_P c l r n q m).1 ≤ m) : lm_P c l r n q (m + 1) = lm_ex c l r n m (lm_P c l r n q m) := if_neg (by omega)
theorem lm_PK {c l r : Nat → Int32} {n q m : Nat} (h : m < (lm_P c l r n q m).1) : lm_P c l r n q (m + 1) = lm_P c l r n q m := if_pos h
theorem lm_skip {c l r : Nat → Int32} {n q m : Nat} : ∀ d : Nat, m + d ≤ (lm_P c l r n q m).1 → lm_P c l r n q (m + d) = lm_P c l r n q m
  | 0, _ => rfl
  | d + 1, h => by
    have e := lm_skip (c := c) (l := l) (r := r) (n := n) (q := q) (m := m) d (by omega)
    have : lm_P c l r n q (m + d + 1) = lm_P c l r n q (m + d) := lm_PK (by rw [e]; omega)
    rw [show m + (d + 1) = m + d + 1 from rfl, this, e]
theorem lm_wk_b (c x y b : Int32) : ∃ v : Nat, v < 256 ∧ lm_wk c x y b = nI v := pk_andE _ (m := 255) 8 (by decide)
/-- all values are bytes, at most seven outputs, and the next place is within -/
def lm_ok (n m : Nat) (s : lm_T) : Prop := (∀ j, ∃ v : Nat, v < 256 ∧ s.2.1 j = nI v) ∧ s.2.2.1 ≤ 7 ∧ s.1 ≤ n
theorem lm_exOk {c l r : Nat → Int32} {n m : Nat} {s : lm_T} (hm : m < n) (h : lm_ok n m s) : lm_ok n (m + 1) (lm_ex c l r n m s) := by
  obtain ⟨h1, h2, h3⟩ := h
  unfold lm_ex
  split
  · refine ⟨h1, ?_, hm⟩
    show (if s.2.2.1 < 7 then s.2.2.1 + 1 else s.2.2.1) ≤ 7
    split <;> omega
  · split
    · refine ⟨h1, h2, ?_⟩
      show (if s.2.1 (lm_ix (l m)) = 0 then lm_B c n m else m + 1) ≤ n
      split
      · exact lm_Ble
      · exact hm
    · split
      · exact ⟨h1, h2, lm_Ble⟩
      · split
        · exact ⟨h1, h2, hm⟩
        · refine ⟨?_, h2, hm⟩
          intro j
          show ∃ v : Nat, v < 256 ∧ upd s.2.1 _ _ j = nI v
          by_cases e : j = lm_ix (l m)
          · rw [e, pk_us]
            exact lm_wk_b _ _ _ _
          · rw [pk_un e]
            exact h1 j
theorem lm_POk {c l r : Nat → Int32} {n q : Nat} (hq : q < 64) : ∀ m : Nat, m ≤ n → lm_ok n m (lm_P c l r n q m)
  | 0, _ => by
    refine ⟨fun j => ?_, by show 0 ≤ 7; omega, Nat.zero_le n⟩
    show ∃ v : Nat, v < 256 ∧ (if j = 0 then nI q else 0) = nI v
    split
    · exact ⟨q, by omega, rfl⟩
    · exact ⟨0, by omega, nI_0.symm⟩
  | m + 1, h => by
    have ih := lm_POk (c := c) (l := l) (r := r) (n := n) hq m (by omega)
    by_cases e : m < (lm_P c l r n q m).1
    · rw [lm_PK e]; exact ih
    · rw [lm_PS (by omega)]; exact lm_exOk (by omega) ih
theorem lm_exGt {c l r : Nat → Int32} {n m : Nat} {s : lm_T} (hm : m < n) : m < (lm_ex c l r n m s).1 := by
  unfold lm_ex
  split
  · exact Nat.lt_succ_self m
  · split
    · show m < (if s.2.1 (lm_ix (l m)) = 0 then lm_B c n m else m + 1)
      split
      · exact lm_Bgt hm
      · exact Nat.lt_succ_self m
    · split
      · exact lm_Bgt hm
      · split
        · exact Nat.lt_succ_self m
        · exact Nat.lt_succ_self m
/-- the view of secret q: its length and its values; the variables at the end -/
def lm_K (c l r : Nat → Int32) (n q : Nat) : Nat := (lm_P c l r n q n).2.2.1
def lm_G (c l r : Nat → Int32) (n q : Nat) : Nat → Int32 := (lm_P c l r n q n).2.2.2
def lm_V (c l r : Nat → Int32) (n q : Nat) : Nat → Int32 := (lm_P c l r n q n).2.1
theorem lm_K7 {c l r : Nat → Int32} {n q : Nat} (hq : q < 64) : lm_K c l r n q ≤ 7 := (lm_POk hq n (Nat.le_refl n)).2.1
/-- a view as it lies in two arrays -/
def lm_Vw (vv vl : Nat → Int32) (q k : Nat) (g : Nat → Int32) : Prop := vl q = nI k ∧ ∀ j, j < k → vv (7 * q + j) = g j
/-- the same view -/
def lm_sv (K : Nat → Nat) (G : Nat → Nat → Int32) (s t : Nat) : Prop := K s = K t ∧ ∀ j, j < K s → G s j = G t j
theorem lm_svR {K : Nat → Nat} {G : Nat → Nat → Int32} (s : Nat) : lm_sv K G s s := ⟨rfl, fun _ _ => rfl⟩
theorem lm_svS {K : Nat → Nat} {G : Nat → Nat → Int32} {s t : Nat} (h : lm_sv K G s t) : lm_sv K G t s := ⟨h.1.symm, fun j hj => (h.2 j (by rw [h.1]; exact hj)).symm⟩
theorem lm_svT {K : Nat → Nat} {G : Nat → Nat → Int32} {s t u : Nat} (h : lm_sv K G s t) (h2 : lm_sv K G t u) : lm_sv K G s u := ⟨h.1.trans h2.1, fun j hj => (h.2 j hj).trans (h2.2 j (by rw [← h.1]; exact hj))⟩
/-- the least with the same view -/
def lm_Ls (K : Nat → Nat) (G : Nat → Nat → Int32) (s x : Nat) : Prop := x ≤ s ∧ lm_sv K G x s ∧ ∀ t, t < x → ¬ lm_sv K G t s
theorem lm_LsI {K : Nat → Nat} {G : Nat → Nat → Int32} {s t x y : Nat} (h1 : lm_Ls K G s x) (h2 : lm_Ls K G t y) : x = y ↔ lm_sv K G s t := by
  constructor
  · intro e
    rw [e] at h1
    exact lm_svT (lm_svS h1.2.1) h2.2.1
  · intro e
    rcases Nat.lt_trichotomy x y with h | h | h
    · exact absurd (lm_svT h1.2.1 e) (h2.2.2 x h)
    · exact h
    · exact absurd (lm_svT h2.2.1 (lm_svS e)) (h1.2.2 y h)
