/-! the reference's run of the program for one secret, against lm_P -/
theorem lm_yPowL {k : Nat} (hk : k < 8) (post : Int32 → Prop) (h : post (nI (2 ^ k))) :
    ∀ e i f : Nat, i + e = k → e < f → wY_power_4 post (nI k) f (nI (2 ^ i)) (nI i) := by
  intro e
  induction e with
  | zero =>
    intro i f hi hf
    obtain ⟨f, rfl⟩ := lm_f1 hf
    have ei : i = k := by omega
    subst ei
    exact pk_le i i (fun _ => h) (fun z => absurd z (Nat.lt_irrefl i))
  | succ e ih =>
    intro i f hi hf
    obtain ⟨f, rfl⟩ := lm_f1 hf
    have H := ih (i + 1) f (by omega) (by omega)
    have e2 : nI (2 ^ i) * 2 = nI (2 ^ (i + 1)) := pk_mul (2 ^ i) 2
    exact pk_le k i (fun z => by omega) (fun _ => pk_le 7 i (fun z => by omega) (fun _ => nm_r e2 (nm_r (nI_1 i) H)))
theorem lm_n256 : ¬ (256 : Int32) = 0 := by decide
theorem lm_yWk {j a e : Nat} (hj : j < 12) (ha : a < 256) (he : e < 256) (b : Int32) (post : Int32 → Prop) (h : post (lm_wk (nI j) (nI a) (nI e) b)) : wpY_worked post (nI j) (nI a) (nI e) b := by
  obtain ⟨k, hk, eb⟩ := pk_andE b (m := 7) 3 (by decide)
  have hk8 : k < 8 := hk
  unfold wpY_worked wpY_power
  rw [eb]
  refine ⟨k + 1, lm_yPowL hk8 _ ?_ k 0 (k + 1) (by omega) (by omega)⟩
  have hp := lm_pw k hk8
  refine br_c (fun z => by rw [z, ← lm_wk0] at h; exact h) (fun z0 => ?_)
  refine br_c (fun z => by rw [z, ← lm_wk1 he] at h; exact h) (fun z1 => ?_)
  refine br_c (fun z => by rw [z, ← lm_wk2 ha he] at h; exact ⟨lm_n256, h⟩) (fun z2 => ?_)
  refine br_c (fun z => by rw [z, ← lm_wk3 ha he] at h; exact ⟨lm_n256, h⟩) (fun z3 => ?_)
  refine br_c (fun z => by rw [z, ← lm_wk4 ha he] at h; exact ⟨lm_n256, h⟩) (fun z4 => ?_)
  refine br_c (fun z => by rw [z, ← lm_wk5 ha he] at h; exact h) (fun z5 => ?_)
  refine br_c (fun z => by rw [z, ← lm_wk6 ha he] at h; exact h) (fun z6 => ?_)
  refine br_c (fun z => by rw [z, ← lm_wk7 ha he] at h; exact h) (fun z7 => ?_)
  refine br_c (fun z => by rw [z, ← lm_wk8 ha hk8 _ b eb] at h; exact ⟨lm_n256, h⟩) (fun z8 => ?_)
  refine br_c (fun z => ?_) (fun z9 => ?_)
  · rw [z, ← lm_wk9 ha hk8 _ b eb] at h
    refine br_f (nI_nle (by omega) (by omega)) ⟨nI_ne0 (by omega) (by omega), h⟩
  refine br_c (fun z => ?_) (fun z10 => ?_)
  · rw [z] at h
    refine br_c (fun g => ?_) (fun g => ?_)
    · rw [← lm_wk10f b (Int32.not_lt.mpr g)] at h; exact h
    · rw [← lm_wk10t b (Int32.not_le.mp g)] at h; exact h
  · have j11 : j = 11 := by
      have g : ∀ i, i < 12 → ¬ nI j = nI i → j ≠ i := fun i _ hi hh => hi (by rw [hh])
      have a0 := g 0 (by omega) z0
      have a1 := g 1 (by omega) z1
      have a2 := g 2 (by omega) z2
      have a3 := g 3 (by omega) z3
      have a4 := g 4 (by omega) z4
      have a5 := g 5 (by omega) z5
      have a6 := g 6 (by omega) z6
      have a7 := g 7 (by omega) z7
      have a8 := g 8 (by omega) z8
      have a9 := g 9 (by omega) z9
      have a10 := g 10 (by omega) z10
      omega
    have z : nI j = 11 := by rw [j11]; rfl
    rw [z] at h
    refine br_c (fun g => ?_) (fun g => ?_)
    · rw [← lm_wk11t b g] at h; exact h
    · rw [← lm_wk11f b g] at h; exact h
/-- the four variables -/
def lm_A (va v : Nat → Int32) : Prop := ∀ j, j < 4 → va j = v j
theorem lm_Au {va v : Nat → Int32} {i : Nat} {x : Int32} (h : lm_A va v) : lm_A (upd va i x) (upd v i x) := by
  intro j hj
  by_cases e : j = i
  · rw [e, pk_us, pk_us]
  · rw [pk_un e, pk_un e]
    exact h j hj
section
variable {c l r va o vw : Nat → Int32} {n : Nat}
theorem lm_yShow {q k : Nat} {x : Int32} (hq : q < 64) (hk : k ≤ 7) (post : SY → Prop) (h1 : k < 7 → post (nI n, nI (k + 1), c, l, r, va, o, upd vw (7 * q + k) x)) (h2 : ¬ k < 7 → post (nI n, nI k, c, l, r, va, o, vw)) : wpY_show post (nI n, nI k, c, l, r, va, o, vw) (nI q) x := by
  unfold wpY_show
  refine pk_le 7 k (fun z => h2 (by omega)) (fun z => ?_)
  rw [lm_i7', lm_cl (q := 7 * q + k) (by omega), nI_1]
  exact ⟨vp_in_nI (by omega) (by omega), nm_e (nm_e (h1 z))⟩
theorem lm_yLoop {q : Nat} {o vw0 : Nat → Int32} (h40 : n ≤ 40) (hcode : ∀ p, p < n → ∃ j : Nat, j < 16 ∧ c p = nI j) (hq : q < 64) (post : SY → Prop)
    (hp : ∀ (k : Nat) (va vw : Nat → Int32), k = lm_K c l r n q → lm_A va (lm_V c l r n q) → lm_O vw q k (lm_G c l r n q) → lm_F7 q vw0 vw → post (nI n, nI k, c, l, r, va, upd o q (nI k), vw)) :
    ∀ (e a s f nx k : Nat) (v g va vw : Nat → Int32), a ≤ n → n - a ≤ e → e < f → s ≤ a → lm_P c l r n q a = (nx, v, k, g) → nx ≤ a → lm_A va v → lm_O vw q k g → lm_F7 q vw0 vw → wY_run_36 post (nI q) f (nI a) (nI s) (nI n) (nI k) c l r va o vw := by
  have hend : ∀ (a nx k : Nat) (v g va vw : Nat → Int32), a = n → lm_P c l r n q a = (nx, v, k, g) → lm_A va v → lm_O vw q k g → lm_F7 q vw0 vw → vp_in (nI q) 64 ∧ ∀ o' : Nat → Int32, o' = upd o (nI q).toNatClampNeg (nI k) → post (nI n, nI k, c, l, r, va, o', vw) := by
    intro a nx k v g va vw ea hP hA hO hF
    subst ea
    refine ⟨lm_v64 hq, nm_r (e' := upd o q (nI k)) (by rw [lm_cl (by omega)]) (hp k va vw ?_ ?_ ?_ hF)⟩
    · unfold lm_K; rw [hP]
    · unfold lm_V; rw [hP]; exact hA
    · unfold lm_G; rw [hP]; exact hO
  intro e
  induction e with
  | zero =>
    intro a s f nx k v g va vw ha he hf hs hP hn hA hO hF
    obtain ⟨f, rfl⟩ := lm_f1 hf
    have ea : a = n := by omega
    have H := hend a nx k v g va vw ea hP hA hO hF
    subst ea
    exact br_c (fun _ => H) (fun _ => pk_le a a (fun _ => H) (fun z => absurd z (Nat.lt_irrefl a)))
  | succ e ih =>
    intro a s f nx k v g va vw ha he hf hs hP hn hA hO hF
    obtain ⟨f, rfl⟩ := lm_f1 hf
    by_cases ea : a = n
    · have H := hend a nx k v g va vw ea hP hA hO hF
      subst ea
      exact br_c (fun _ => H) (fun _ => pk_le a a (fun _ => H) (fun z => absurd z (Nat.lt_irrefl a)))
    · have han : a < n := by omega
      obtain ⟨j, hj, ec⟩ := hcode a han
      have OK := lm_POk (c := c) (l := l) (r := r) (n := n) hq a (by omega)
      rw [hP] at OK
      have hk : k ≤ 7 := OK.2.1
      have hv : ∀ i, ∃ z : Nat, z < 256 ∧ v i = nI z := OK.1
      have ca : (nI a).toNatClampNeg = a := lm_cl (by omega)
      have vm : vp_in (nI a) 40 := lm_v40 (by omega)
      have hi := lm_ix_lt (l a)
      have hi2 := lm_ix_lt (r a)
      have HJ : ∀ (nx' k' : Nat) (v' g' va' vw' : Nat → Int32), lm_P c l r n q (a + 1) = (nx', v', k', g') → lm_A va' v' → lm_O vw' q k' g' → lm_F7 q vw vw' → wY_run_36 post (nI q) f (nI nx') (nI (s + 1)) (nI n) (nI k') c l r va' o vw' := by
        intro nx' k' v' g' va' vw' hP' hA' hO' hF'
        have gt : a < nx' := by
          have z := lm_exGt (c := c) (l := l) (r := r) (s := lm_P c l r n q a) han
          rw [← lm_PS (by rw [hP]; exact hn), hP'] at z
          exact z
        have le : nx' ≤ n := by
          have z := (lm_POk (c := c) (l := l) (r := r) (n := n) hq (a + 1) (by omega)).2.2
          rw [hP'] at z
          exact z
        have sk := lm_skip (c := c) (l := l) (r := r) (n := n) (q := q) (m := a + 1) (nx' - (a + 1)) (by rw [hP']; show a + 1 + (nx' - (a + 1)) ≤ nx'; omega)
        have e1 : a + 1 + (nx' - (a + 1)) = nx' := by omega
        rw [e1, hP'] at sk
        exact ih nx' (s + 1) f nx' k' v' g' va' vw' le (by omega) (by omega) (by omega) sk (Nat.le_refl _) hA' hO' (lm_F7T hF hF')
      refine pk_le 40 s (fun z => by omega) (fun _ => pk_le n a (fun z => by omega) (fun _ => ⟨vm, ?_⟩))
      rw [ca, lm_ix_eq (l a), lm_ix_eq (r a), nI_1 a, lm_cl (q := lm_ix (l a)) (by omega), lm_cl (q := lm_ix (r a)) (by omega)]
      have vi : vp_in (nI (lm_ix (l a))) 4 := vp_in_nI hi (by omega)
      refine nm_e ⟨vm, vi, nm_r (hA _ hi) ⟨vm, vp_in_nI hi2 (by omega), nm_r (hA _ hi2) (nm_e ?_)⟩⟩
      have n12 : j ≠ 12 → c a ≠ 12 := fun z => by rw [ec]; exact lm_ne (i := 12) hj (by omega) z
      have n13 : j ≠ 13 → c a ≠ 13 := fun z => by rw [ec]; exact lm_ne (i := 13) hj (by omega) z
      have n14 : j ≠ 14 → c a ≠ 14 := fun z => by rw [ec]; exact lm_ne (i := 14) hj (by omega) z
      have n15 : j ≠ 15 → c a ≠ 15 := fun z => by rw [ec]; exact lm_ne (i := 15) hj (by omega) z
      by_cases hlt : j < 12
      · have x : ¬ (11 : Int32) < c a := by rw [ec]; exact nI_nlt (a := 11) (b := j) (by omega) (by omega)
        refine br_f x ⟨vm, vm, ?_⟩
        obtain ⟨x1, hx1, ex1⟩ := hv (lm_ix (l a))
        obtain ⟨x2, hx2, ex2⟩ := hv (lm_ix (r a))
        have hS := lm_PD hP hn (n12 (by omega)) (n13 (by omega)) (n14 (by omega)) (n15 (by omega))
        have Z := HJ _ _ _ _ _ _ hS (lm_Au (x := lm_wk (c a) (v (lm_ix (l a))) (v (lm_ix (r a))) (r a)) hA) hO lm_F7R
        have Z2 : wY_run_128 post (wY_run_36 post (nI q) f) (nI q) (nI a) (nI s) (c a) (v (lm_ix (l a))) (nI (a + 1)) (nI n) (nI k) c l r (upd va (lm_ix (l a)) (lm_wk (c a) (v (lm_ix (l a))) (v (lm_ix (r a))) (r a))) o vw := by
          unfold wY_run_128 wY_run_142 wY_run_162
          exact br_f (n12 (by omega)) (br_f (n13 (by omega)) (br_f (n14 (by omega)) (nm_r (nI_1 s) Z)))
        rw [ec, ex1, ex2] at Z2
        rw [ec, ex1, ex2]
        exact lm_yWk hlt hx1 hx2 _ _ ⟨vi, nm_e Z2⟩
      · have x : (11 : Int32) < c a := by rw [ec]; exact nI_lt (a := 11) (b := j) (by omega) (by omega)
        refine br_t x ?_
        by_cases j12 : j = 12
        · have e12 : c a = 12 := by rw [ec, j12]; rfl
          unfold wY_run_128
          refine br_t e12 (lm_yShow hq hk _ (fun z => ?_) (fun z => ?_))
          · unfold wY_run_142 wY_run_162
            exact br_f (n13 (by omega)) (br_f (n14 (by omega)) (nm_r (nI_1 s) (HJ _ _ _ _ _ _ (lm_P12a hP hn e12 z) hA (lm_Ou hO) (lm_F7u (by omega)))))
          · unfold wY_run_142 wY_run_162
            exact br_f (n13 (by omega)) (br_f (n14 (by omega)) (nm_r (nI_1 s) (HJ _ _ _ _ _ _ (lm_P12b hP hn e12 z) hA hO lm_F7R)))
        · unfold wY_run_128
          refine br_f (n12 j12) ?_
          by_cases j13 : j = 13
          · have e13 : c a = 13 := by rw [ec, j13]; rfl
            unfold wY_run_142
            refine br_t e13 (br_c (fun z => ?_) (fun z => ?_))
            · refine lm_yBeh h40 han (Or.inl ⟨e13, rfl⟩) _ ?_
              unfold wY_run_162
              exact br_f (n14 (by omega)) (nm_r (nI_1 s) (HJ _ _ _ _ _ _ (lm_P13a hP hn e13 z) hA hO lm_F7R))
            · unfold wY_run_162
              exact br_f (n14 (by omega)) (nm_r (nI_1 s) (HJ _ _ _ _ _ _ (lm_P13b hP hn e13 z) hA hO lm_F7R))
          · unfold wY_run_142 wY_run_162
            refine br_f (n13 j13) ?_
            by_cases j14 : j = 14
            · have e14 : c a = 14 := by rw [ec, j14]; rfl
              exact br_t e14 (lm_yBeh h40 han (Or.inr ⟨n13 j13, rfl⟩) _ (nm_r (nI_1 s) (HJ _ _ _ _ _ _ (lm_P14 hP hn e14) hA hO lm_F7R)))
            · have j15 : j = 15 := by omega
              have e15 : c a = 15 := by rw [ec, j15]; rfl
              exact br_f (n14 j14) (nm_r (nI_1 s) (HJ _ _ _ _ _ _ (lm_P15 hP hn e15) hA hO lm_F7R))
theorem lm_yZero {q : Nat} {p : Int32} {o vw0 : Nat → Int32} (h40 : n ≤ 40) (hcode : ∀ p, p < n → ∃ j : Nat, j < 16 ∧ c p = nI j) (hq : q < 64) (post : SY → Prop)
    (hp : ∀ (k : Nat) (va vw : Nat → Int32), k = lm_K c l r n q → lm_A va (lm_V c l r n q) → lm_O vw q k (lm_G c l r n q) → lm_F7 q vw0 vw → post (nI n, nI k, c, l, r, va, upd o q (nI k), vw)) :
    ∀ (d i f : Nat) (va : Nat → Int32), i + d = 4 → d < f → (∀ j, j < i → va j = if j = 0 then nI q else 0) → 0 < i → wY_run_9 post (nI q) (nI n) p f (nI i) c l r va o vw0 := by
  intro d
  induction d with
  | zero =>
    intro i f va hi hf he h0
    obtain ⟨f, rfl⟩ := lm_f1 hf
    have ei : i = 4 := by omega
    subst ei
    refine pk_le 4 4 (fun _ => ⟨n + 1, ?_⟩) (fun z => absurd z (Nat.lt_irrefl 4))
    exact lm_yLoop h40 hcode hq post hp n 0 0 (n + 1) 0 0 _ _ va vw0 (by omega) (by omega) (by omega) (by omega) lm_P0 (by omega) he (fun j hj => absurd hj (Nat.not_lt_zero j)) lm_F7R
  | succ d ih =>
    intro i f va hi hf he h0
    obtain ⟨f, rfl⟩ := lm_f1 hf
    refine pk_le 4 i (fun z => by omega) (fun _ => ⟨vp_in_nI (by omega) (by omega), nm_r (e' := upd va i 0) (by rw [lm_cl (by omega)]) (nm_r (nI_1 i) (ih (i + 1) f _ (by omega) (by omega) ?_ (by omega)))⟩)
    intro j hj
    by_cases e : j = i
    · rw [e, pk_us, if_neg (by omega)]
    · rw [pk_un e]
      exact he j (by omega)
theorem lm_yRun {q : Nat} {p : Int32} (h40 : n ≤ 40) (hcode : ∀ p, p < n → ∃ j : Nat, j < 16 ∧ c p = nI j) (hq : q < 64) (post : SY → Prop)
    (hp : ∀ (k : Nat) (va' vw' : Nat → Int32), k = lm_K c l r n q → lm_A va' (lm_V c l r n q) → lm_O vw' q k (lm_G c l r n q) → lm_F7 q vw vw' → post (nI n, nI k, c, l, r, va', upd o q (nI k), vw')) :
    wpY_run post (nI n, p, c, l, r, va, o, vw) (nI q) := by
  unfold wpY_run
  refine nm_e ⟨4, lm_yZero h40 hcode hq post hp 3 1 4 _ (by omega) (by omega) ?_ (by omega)⟩
  intro j hj
  have e : j = 0 := by omega
  rw [e, pk_us, if_pos rfl]
theorem lm_yAllL (h40 : n ≤ 40) (hcode : ∀ p, p < n → ∃ j : Nat, j < 16 ∧ c p = nI j) (post : SY → Prop)
    (hp : ∀ (p : Int32) (va o vw : Nat → Int32), (∀ s, s < 64 → lm_Vw vw o s (lm_K c l r n s) (lm_G c l r n s)) → post (nI n, p, c, l, r, va, o, vw)) :
    ∀ (d i f : Nat) (p : Int32) (va o vw : Nat → Int32), i + d = 64 → d < f → (∀ s, s < i → lm_Vw vw o s (lm_K c l r n s) (lm_G c l r n s)) → wY_runAll_2 post f (nI i) (nI n) p c l r va o vw := by
  intro d
  induction d with
  | zero =>
    intro i f p va o vw hi hf hs
    obtain ⟨f, rfl⟩ := lm_f1 hf
    exact pk_le 64 i (fun _ => hp p va o vw (fun s h => hs s (by omega))) (fun z => by omega)
  | succ d ih =>
    intro i f p va o vw hi hf hs
    obtain ⟨f, rfl⟩ := lm_f1 hf
    refine pk_le 64 i (fun z => by omega) (fun _ => lm_yRun h40 hcode (by omega) _ ?_)
    intro k va' vw' ek hA hO hF
    refine nm_r (nI_1 i) (ih (i + 1) f _ _ _ _ (by omega) (by omega) ?_)
    intro s h
    by_cases es : s = i
    · subst es
      subst ek
      exact ⟨pk_us, hO⟩
    · obtain ⟨a1, a2⟩ := hs s (by omega)
      refine ⟨by rw [pk_un es]; exact a1, fun j hj => (hF s (by omega) es j ?_).trans (a2 j hj)⟩
      have := lm_K7 (c := c) (l := l) (r := r) (n := n) (q := s) (by omega)
      omega
theorem lm_yAll {p : Int32} (h40 : n ≤ 40) (hcode : ∀ p, p < n → ∃ j : Nat, j < 16 ∧ c p = nI j) (post : SY → Prop)
    (hp : ∀ (p : Int32) (va o vw : Nat → Int32), (∀ s, s < 64 → lm_Vw vw o s (lm_K c l r n s) (lm_G c l r n s)) → post (nI n, p, c, l, r, va, o, vw)) :
    wpY_runAll post (nI n, p, c, l, r, va, o, vw) := by
  unfold wpY_runAll
  exact ⟨65, lm_yAllL h40 hcode post hp 64 0 65 p va o vw (by omega) (by omega) (fun s h => absurd h (Nat.not_lt_zero s))⟩
end
