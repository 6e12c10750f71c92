/-! one step of the fold, case by case; the layouts in memory -/
section
variable {c l r : Nat → Int32} {n q m nx k : Nat} {v g : Nat → Int32}
theorem lm_P12a (hP : lm_P c l r n q m = (nx, v, k, g)) (hn : nx ≤ m) (h : c m = 12) (hk : k < 7) : lm_P c l r n q (m + 1) = (m + 1, v, k + 1, upd g k (v (lm_ix (l m)))) := by
  rw [lm_PS (by rw [hP]; exact hn), hP]
  unfold lm_ex
  rw [if_pos h]
  show (m + 1, v, (if k < 7 then k + 1 else k), (if k < 7 then upd g k (v (lm_ix (l m))) else g)) = _
  rw [if_pos hk, if_pos hk]
theorem lm_P12b (hP : lm_P c l r n q m = (nx, v, k, g)) (hn : nx ≤ m) (h : c m = 12) (hk : ¬ k < 7) : lm_P c l r n q (m + 1) = (m + 1, v, k, g) := by
  rw [lm_PS (by rw [hP]; exact hn), hP]
  unfold lm_ex
  rw [if_pos h]
  show (m + 1, v, (if k < 7 then k + 1 else k), (if k < 7 then upd g k (v (lm_ix (l m))) else g)) = _
  rw [if_neg hk, if_neg hk]
theorem lm_P13a (hP : lm_P c l r n q m = (nx, v, k, g)) (hn : nx ≤ m) (h : c m = 13) (hx : v (lm_ix (l m)) = 0) : lm_P c l r n q (m + 1) = (lm_B c n m, v, k, g) := by
  rw [lm_PS (by rw [hP]; exact hn), hP]
  unfold lm_ex
  rw [if_neg (by rw [h]; decide), if_pos h]
  show ((if v (lm_ix (l m)) = 0 then lm_B c n m else m + 1), v, k, g) = _
  rw [if_pos hx]
theorem lm_P13b (hP : lm_P c l r n q m = (nx, v, k, g)) (hn : nx ≤ m) (h : c m = 13) (hx : ¬ v (lm_ix (l m)) = 0) : lm_P c l r n q (m + 1) = (m + 1, v, k, g) := by
  rw [lm_PS (by rw [hP]; exact hn), hP]
  unfold lm_ex
  rw [if_neg (by rw [h]; decide), if_pos h]
  show ((if v (lm_ix (l m)) = 0 then lm_B c n m else m + 1), v, k, g) = _
  rw [if_neg hx]
theorem lm_P14 (hP : lm_P c l r n q m = (nx, v, k, g)) (hn : nx ≤ m) (h : c m = 14) : lm_P c l r n q (m + 1) = (lm_B c n m, v, k, g) := by
  rw [lm_PS (by rw [hP]; exact hn), hP]
  unfold lm_ex
  rw [if_neg (by rw [h]; decide), if_neg (by rw [h]; decide), if_pos h]
theorem lm_P15 (hP : lm_P c l r n q m = (nx, v, k, g)) (hn : nx ≤ m) (h : c m = 15) : lm_P c l r n q (m + 1) = (m + 1, v, k, g) := by
  rw [lm_PS (by rw [hP]; exact hn), hP]
  unfold lm_ex
  rw [if_neg (by rw [h]; decide), if_neg (by rw [h]; decide), if_neg (by rw [h]; decide), if_pos h]
theorem lm_PD (hP : lm_P c l r n q m = (nx, v, k, g)) (hn : nx ≤ m) (h1 : c m ≠ 12) (h2 : c m ≠ 13) (h3 : c m ≠ 14) (h4 : c m ≠ 15) : lm_P c l r n q (m + 1) = (m + 1, upd v (lm_ix (l m)) (lm_wk (c m) (v (lm_ix (l m))) (v (lm_ix (r m))) (r m)), k, g) := by
  rw [lm_PS (by rw [hP]; exact hn), hP]
  unfold lm_ex
  rw [if_neg h1, if_neg h2, if_neg h3, if_neg h4]
end
/-- a number as code -/
theorem lm_ne {j i : Nat} (hj : j < 16) (hi : i < 16) (h : j ≠ i) : nI j ≠ nI i := fun z => h ((nI_eq (by omega) (by omega)).mp z)
/-- the frame: what stands for other secrets is kept -/
def lm_Fr (q : Nat) (ev vv vl ev' vv' vl' : Nat → Int32) : Prop := ∀ s, s < 64 → s ≠ q → (∀ j, j < 4 → ev' (4 * s + j) = ev (4 * s + j)) ∧ vl' s = vl s ∧ ∀ j, j < 7 → vv' (7 * s + j) = vv (7 * s + j)
theorem lm_FrR {q : Nat} {ev vv vl : Nat → Int32} : lm_Fr q ev vv vl ev vv vl := fun _ _ _ => ⟨fun _ _ => rfl, rfl, fun _ _ => rfl⟩
theorem lm_FrT {q : Nat} {ev vv vl ev1 vv1 vl1 ev2 vv2 vl2 : Nat → Int32} (h1 : lm_Fr q ev vv vl ev1 vv1 vl1) (h2 : lm_Fr q ev1 vv1 vl1 ev2 vv2 vl2) : lm_Fr q ev vv vl ev2 vv2 vl2 := fun s a b => ⟨fun j hj => ((h2 s a b).1 j hj).trans ((h1 s a b).1 j hj), (h2 s a b).2.1.trans (h1 s a b).2.1, fun j hj => ((h2 s a b).2.2 j hj).trans ((h1 s a b).2.2 j hj)⟩
theorem lm_FrE {q i : Nat} {ev vv vl : Nat → Int32} {x : Int32} (hi : i < 4) : lm_Fr q ev vv vl (upd ev (4 * q + i) x) vv vl := fun s _ hs => ⟨fun j hj => pk_un (by omega), rfl, fun _ _ => rfl⟩
theorem lm_FrV {q i : Nat} {ev vv vl : Nat → Int32} {x : Int32} (hi : i < 7) : lm_Fr q ev vv vl ev (upd vv (7 * q + i) x) vl := fun s _ hs => ⟨fun _ _ => rfl, rfl, fun j hj => pk_un (by omega)⟩
theorem lm_FrL {q : Nat} {ev vv vl : Nat → Int32} {x : Int32} : lm_Fr q ev vv vl ev vv (upd vl q x) := fun s _ hs => ⟨fun _ _ => rfl, pk_un hs, fun _ _ => rfl⟩
/-- four variables from base b on -/
def lm_M (ev : Nat → Int32) (b : Nat) (v : Nat → Int32) : Prop := ∀ j, j < 4 → ev (b + j) = v j
theorem lm_Mu {ev v : Nat → Int32} {b i : Nat} {x : Int32} (h : lm_M ev b v) : lm_M (upd ev (b + i) x) b (upd v i x) := by
  intro j hj
  by_cases e : j = i
  · rw [e, pk_us, pk_us]
  · rw [pk_un (by omega), pk_un e]
    exact h j hj
theorem lm_Vu {vv vl g : Nat → Int32} {q k : Nat} {x : Int32} (h : lm_Vw vv vl q k g) : lm_Vw (upd vv (7 * q + k) x) (upd vl q (nI (k + 1))) q (k + 1) (upd g k x) := by
  refine ⟨pk_us, fun j hj => ?_⟩
  by_cases e : j = k
  · rw [e, pk_us, pk_us]
  · rw [pk_un (by omega), pk_un e]
    exact h.2 j (by omega)
/-- outputs alone -/
def lm_O (vv : Nat → Int32) (q k : Nat) (g : Nat → Int32) : Prop := ∀ j, j < k → vv (7 * q + j) = g j
theorem lm_Ou {vv g : Nat → Int32} {q k : Nat} {x : Int32} (h : lm_O vv q k g) : lm_O (upd vv (7 * q + k) x) q (k + 1) (upd g k x) := by
  intro j hj
  by_cases e : j = k
  · rw [e, pk_us, pk_us]
  · rw [pk_un (by omega), pk_un e]
    exact h j (by omega)
def lm_F7 (q : Nat) (vv vv' : Nat → Int32) : Prop := ∀ s, s < 64 → s ≠ q → ∀ j, j < 7 → vv' (7 * s + j) = vv (7 * s + j)
theorem lm_F7R {q : Nat} {vv : Nat → Int32} : lm_F7 q vv vv := fun _ _ _ _ _ => rfl
theorem lm_F7T {q : Nat} {a b d : Nat → Int32} (h1 : lm_F7 q a b) (h2 : lm_F7 q b d) : lm_F7 q a d := fun s x y j hj => (h2 s x y j hj).trans (h1 s x y j hj)
theorem lm_F7u {q i : Nat} {vv : Nat → Int32} {x : Int32} (hi : i < 7) : lm_F7 q vv (upd vv (7 * q + i) x) := fun s _ hs j hj => pk_un (by omega)
theorem lm_i7 (q j : Nat) : nI q * 7 + nI j = nI (7 * q + j) := by
  show nI q * nI 7 + nI j = _
  rw [pk_mul, nI_add, Nat.mul_comm]
theorem lm_i7' (q j : Nat) : 7 * nI q + nI j = nI (7 * q + j) := by
  show nI 7 * nI q + nI j = _
  rw [pk_mul, nI_add]
theorem lm_i4 (q j : Nat) : nI q * 4 + nI j = nI (4 * q + j) := by
  show nI q * nI 4 + nI j = _
  rw [pk_mul, nI_add, Nat.mul_comm]
theorem lm_i40 (q : Nat) : nI q * 4 = nI (4 * q) := by
  show nI q * nI 4 = _
  rw [pk_mul, Nat.mul_comm]
/-- a secret's number -/
theorem lm_63 (x : Int32) : ∃ q : Nat, q < 64 ∧ x &&& 63 = nI q := pk_andE x (m := 63) 6 (by decide)
/-- the pure picture of all secrets -/
def lm_Pc (c l r : Nat → Int32) (n : Nat) (ev vv vl la : Nat → Int32) : Prop := (∀ s, s < 64 → lm_M ev (4 * s) (lm_V c l r n s) ∧ lm_Vw vv vl s (lm_K c l r n s) (lm_G c l r n s)) ∧ ∀ s, s < 64 → ∃ x : Nat, la s = nI x ∧ lm_Ls (lm_K c l r n) (lm_G c l r n) s x
theorem lm_P0 {c l r : Nat → Int32} {n q : Nat} : lm_P c l r n q 0 = (0, fun j => if j = 0 then nI q else 0, 0, fun _ => 0) := rfl
