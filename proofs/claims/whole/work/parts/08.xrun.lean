/-! X's run of the program for one secret, against lm_P -/
theorem lm_v64 {q : Nat} (h : q < 64) : vp_in (nI q) 64 := vp_in_nI h (by omega)
theorem lm_cl {q : Nat} (h : q < 1000) : (nI q).toNatClampNeg = q := nI_clamp (by omega)
theorem lm_xCp {j : Nat} (hj : j < 12) (x y b : Int32) (post : Int32 → Prop) (h : post (lm_cp (nI j) x y b)) : wpX_computed post (nI j) x y b := by
  unfold wpX_computed
  refine br_f (nI_pos (by omega)) (br_f (nI_nlt (b := j) (a := 11) (by omega) (by omega)) ?_)
  refine br_c (fun z => by rw [z, lm_cp0] at h; exact h) (fun z0 => ?_)
  refine br_c (fun z => by rw [z, lm_cp1] at h; exact h) (fun z1 => ?_)
  refine br_c (fun z => by rw [z, lm_cp2] at h; exact h) (fun z2 => ?_)
  refine br_c (fun z => by rw [z, lm_cp3] at h; exact h) (fun z3 => ?_)
  refine br_c (fun z => by rw [z, lm_cp4] at h; exact h) (fun z4 => ?_)
  refine br_c (fun z => by rw [z, lm_cp5] at h; exact h) (fun z5 => ?_)
  refine br_c (fun z => by rw [z, lm_cp6] at h; exact h) (fun z6 => ?_)
  refine br_c (fun z => by rw [z, lm_cp7] at h; exact h) (fun z7 => ?_)
  refine br_c (fun z => by rw [z, lm_cp8] at h; exact h) (fun z8 => ?_)
  refine br_c (fun z => by rw [z, lm_cp9] at h; exact h) (fun z9 => ?_)
  refine br_c (fun z => ?_) (fun z10 => ?_)
  · rw [z, lm_cp10] at h
    refine br_c (fun g => ?_) (fun g => ?_)
    · rw [if_neg (Int32.not_lt.mpr g)] at h; exact h
    · rw [if_pos (Int32.not_le.mp g)] at h; exact h
  · refine br_c (fun z => ?_) (fun _ => trivial)
    rw [z, lm_cp11] at h
    refine br_c (fun g => ?_) (fun g => ?_)
    · rw [if_pos g] at h; exact h
    · rw [if_neg g] at h; exact h
theorem lm_xPut {f1 f2 x : Int32} {c l r t w ev vv vl la g : Nat → Int32} {q k : Nat} (hq : q < 64) (hk : k ≤ 7) (hV : lm_Vw vv vl q k g) (post : SX → Prop)
    (h1 : k < 7 → post (f1, f2, c, l, r, t, w, ev, upd vv (7 * q + k) x, upd vl q (nI (k + 1)), la)) (h2 : ¬ k < 7 → post (f1, f2, c, l, r, t, w, ev, vv, vl, la)) : wpX_putOut post (f1, f2, c, l, r, t, w, ev, vv, vl, la) (nI q) x := by
  unfold wpX_putOut
  refine ⟨lm_v64 hq, nm_r (e' := nI k) (by rw [lm_cl (by omega)]; exact hV.1) ?_⟩
  refine pk_le 7 k (fun z => h2 (by omega)) (fun z => ?_)
  rw [lm_i7, lm_cl (q := q) (by omega), nI_1, lm_cl (q := 7 * q + k) (by omega)]
  exact ⟨vp_in_nI (by omega) (by omega), nm_e ⟨lm_v64 hq, nm_e (h1 z)⟩⟩
theorem lm_xCar {n op q m nx k : Nat} {c l r t w ev vv vl la v g : Nat → Int32} (T : lm_Tie n op c t w) (hq : q < 64) (hm : m < n) (hP : lm_P c l r n q m = (nx, v, k, g)) (hn : nx ≤ m) (hE : lm_M ev (4 * q) v) (hV : lm_Vw vv vl q k g) (post : Int32 → SX → Prop)
    (h : ∀ (T' nx' : Nat) (v' : Nat → Int32) (k' : Nat) (g' ev' vv' vl' : Nat → Int32), T' ≤ 40 → (T' = nx' ∨ (nx' = n ∧ n ≤ T')) → lm_P c l r n q (m + 1) = (nx', v', k', g') → lm_M ev' (4 * q) v' → lm_Vw vv' vl' q k' g' → lm_Fr q ev vv vl ev' vv' vl' → post (nI T') (nI n, nI op, c, l, r, t, w, ev', vv', vl', la)) :
    wpX_carryOut post (nI n, nI op, c, l, r, t, w, ev, vv, vl, la) (nI q) (nI m) := by
  have h40 : n ≤ 40 := T.1
  obtain ⟨j, hj, ec⟩ := T.2.2.2.1 m hm
  have hk : k ≤ 7 := by
    have z := (lm_POk (c := c) (l := l) (r := r) (n := n) hq m (by omega)).2.1
    rw [hP] at z
    exact z
  have cm : (nI m).toNatClampNeg = m := lm_cl (by omega)
  have vm : vp_in (nI m) 40 := vp_in_nI (by omega) (by omega)
  have hi := lm_ix_lt (l m)
  have hi2 := lm_ix_lt (r m)
  have ci : (nI (4 * q + lm_ix (l m))).toNatClampNeg = 4 * q + lm_ix (l m) := lm_cl (by omega)
  have cj : (nI (4 * q + lm_ix (r m))).toNatClampNeg = 4 * q + lm_ix (r m) := lm_cl (by omega)
  have vi : vp_in (nI (4 * q + lm_ix (l m))) 256 := vp_in_nI (by omega) (by omega)
  unfold wpX_carryOut
  refine nm_r (lm_i40 q) ?_
  refine ⟨vm, nm_r (e' := nI (4 * q + lm_ix (l m))) (by rw [cm, lm_ix_eq (l m), nI_add]) ?_⟩
  refine ⟨vi, nm_r (e' := v (lm_ix (l m))) (by rw [ci]; exact hE _ hi) ?_⟩
  refine ⟨vm, ?_⟩
  rw [cm, nI_1 m]
  have ej : nI (4 * q) + (r m &&& 3) = nI (4 * q + lm_ix (r m)) := by rw [lm_ix_eq (r m), nI_add]
  rw [ej]
  refine ⟨vp_in_nI (by omega) (by omega), nm_r (e' := v (lm_ix (r m))) (by rw [cj]; exact hE _ hi2) ?_⟩
  refine ⟨vm, nm_e ?_⟩
  by_cases hlt : j < 12
  · have a : c m < 12 := by rw [ec]; exact nI_lt (b := 12) hlt (by decide)
    refine br_t a ⟨vm, vm, ?_⟩
    have e1 : c m ≠ 12 := by rw [ec]; exact lm_ne (i := 12) hj (by omega) (by omega)
    have e2 : c m ≠ 13 := by rw [ec]; exact lm_ne (i := 13) hj (by omega) (by omega)
    have e3 : c m ≠ 14 := by rw [ec]; exact lm_ne (i := 14) hj (by omega) (by omega)
    have e4 : c m ≠ 15 := by rw [ec]; exact lm_ne (i := 15) hj (by omega) (by omega)
    have hS := lm_PD hP hn e1 e2 e3 e4
    have hF := h (m + 1) _ _ _ _ _ _ _ (by omega) (Or.inl rfl) hS (lm_Mu hE) hV (lm_FrE hi)
    rw [ec]
    refine lm_xCp hlt _ _ _ _ ⟨vi, nm_r (by rw [ci]) ?_⟩
    rw [ec] at hF
    exact hF
  · have a : ¬ c m < 12 := by rw [ec]; exact nI_nlt (a := j) (b := 12) (by omega) (by omega)
    have a2 : ¬ (15 : Int32) < c m := by rw [ec]; exact nI_nlt (a := 15) (b := j) (by omega) (by omega)
    refine br_f a (br_f a2 ?_)
    by_cases j12 : j = 12
    · have e : c m = 12 := by rw [ec, j12]; rfl
      refine br_t e (lm_xPut hq hk hV _ (fun z => ?_) (fun z => ?_))
      · exact h (m + 1) _ _ _ _ _ _ _ (by omega) (Or.inl rfl) (lm_P12a hP hn e z) hE (lm_Vu hV) (lm_FrT (lm_FrV (by omega)) lm_FrL)
      · exact h (m + 1) _ _ _ _ _ _ _ (by omega) (Or.inl rfl) (lm_P12b hP hn e z) hE hV lm_FrR
    · have e12 : ¬ c m = 12 := by rw [ec]; exact lm_ne (i := 12) hj (by omega) j12
      refine br_f e12 ?_
      by_cases j13 : j = 13
      · have e : c m = 13 := by rw [ec, j13]; rfl
        refine br_t e (br_c (fun z => ⟨vm, ?_⟩) (fun z => ?_))
        · obtain ⟨kk, hk40, et, hor⟩ := lm_tgt T hm (Or.inl e)
          rw [et]
          exact h kk _ _ _ _ _ _ _ hk40 hor (lm_P13a hP hn e z) hE hV lm_FrR
        · exact h (m + 1) _ _ _ _ _ _ _ (by omega) (Or.inl rfl) (lm_P13b hP hn e z) hE hV lm_FrR
      · have e13 : ¬ c m = 13 := by rw [ec]; exact lm_ne (i := 13) hj (by omega) j13
        refine br_f e13 ?_
        by_cases j14 : j = 14
        · have e : c m = 14 := by rw [ec, j14]; rfl
          refine br_t e ⟨vm, ?_⟩
          obtain ⟨kk, hk40, et, hor⟩ := lm_tgt T hm (Or.inr e)
          rw [et]
          exact h kk _ _ _ _ _ _ _ hk40 hor (lm_P14 hP hn e) hE hV lm_FrR
        · have e14 : ¬ c m = 14 := by rw [ec]; exact lm_ne (i := 14) hj (by omega) j14
          have j15 : j = 15 := by omega
          have e : c m = 15 := by rw [ec, j15]; rfl
          exact br_f e14 (br_t e (h (m + 1) _ _ _ _ _ _ _ (by omega) (Or.inl rfl) (lm_P15 hP hn e) hE hV lm_FrR))
theorem lm_xLoop {n op q : Nat} {c l r t w la ev0 vv0 vl0 : Nat → Int32} (T : lm_Tie n op c t w) (hq : q < 64) (post : SX → Prop)
    (hp : ∀ ev vv vl : Nat → Int32, lm_Fr q ev0 vv0 vl0 ev vv vl → lm_M ev (4 * q) (lm_V c l r n q) → lm_Vw vv vl q (lm_K c l r n q) (lm_G c l r n q) → post (nI n, nI op, c, l, r, t, w, ev, vv, vl, la)) :
    ∀ (d m f Tn nx k : Nat) (v g ev vv vl : Nat → Int32), m + d = n → d < f → Tn ≤ 40 → (Tn = nx ∨ (nx = n ∧ n ≤ Tn)) → lm_P c l r n q m = (nx, v, k, g) → lm_M ev (4 * q) v → lm_Vw vv vl q k g → lm_Fr q ev0 vv0 vl0 ev vv vl → wX_runProgram_45 post (nI q) f (nI Tn) (nI m) (nI n) (nI op) c l r t w ev vv vl la := by
  have h40 : n ≤ 40 := T.1
  intro d
  induction d with
  | zero =>
    intro m f Tn nx k v g ev vv vl hm hf hT hor hP hE hV hF
    obtain ⟨f, rfl⟩ : ∃ f', f = f' + 1 := ⟨f - 1, by omega⟩
    have em : m = n := by omega
    subst em
    refine pk_le m m (fun _ => hp ev vv vl hF ?_ ?_) (fun z => absurd z (Nat.lt_irrefl m))
    · unfold lm_V; rw [hP]; exact hE
    · unfold lm_K lm_G; rw [hP]; exact hV
  | succ d ih =>
    intro m f Tn nx k v g ev vv vl hm hf hT hor hP hE hV hF
    obtain ⟨f, rfl⟩ : ∃ f', f = f' + 1 := ⟨f - 1, by omega⟩
    refine pk_le n m (fun z => by omega) (fun _ => pk_lt m Tn (fun z => nm_r (nI_1 m) ?_) (fun z => ?_))
    · refine ih (m + 1) f Tn nx k v g ev vv vl (by omega) (by omega) hT hor ?_ hE hV hF
      rw [lm_PK (by rw [hP]; show m < nx; omega)]
      exact hP
    · refine lm_xCar T hq (by omega) hP (by omega) hE hV _ ?_
      intro T' nx' v' k' g' ev' vv' vl' a1 a2 a3 a4 a5 a6
      exact nm_r (nI_1 m) (ih (m + 1) f T' nx' k' v' g' ev' vv' vl' (by omega) (by omega) a1 a2 a3 a4 a5 (lm_FrT hF a6))
theorem lm_xZero {n op q : Nat} {c l r t w la ev0 vv vl : Nat → Int32} (T : lm_Tie n op c t w) (hq : q < 64) (post : SX → Prop)
    (hp : ∀ ev vv' vl' : Nat → Int32, lm_Fr q ev0 vv vl ev vv' vl' → lm_M ev (4 * q) (lm_V c l r n q) → lm_Vw vv' vl' q (lm_K c l r n q) (lm_G c l r n q) → post (nI n, nI op, c, l, r, t, w, ev, vv', vl', la)) :
    ∀ (d i f : Nat) (ev : Nat → Int32), i + d = 4 → d < f → (∀ j, j < i → ev (4 * q + j) = if j = 0 then nI q else 0) → 0 < i → lm_Fr q ev0 vv vl ev vv vl → wX_runProgram_13 post (nI q) (nI (4 * q)) (nI n) (nI op) f (nI i) c l r t w ev vv vl la := by
  intro d
  induction d with
  | zero =>
    intro i f ev hi hf he h0 hF
    obtain ⟨f, rfl⟩ : ∃ f', f = f' + 1 := ⟨f - 1, by omega⟩
    have ei : i = 4 := by omega
    subst ei
    refine pk_le 4 4 (fun _ => ⟨lm_v64 hq, nm_r (e' := upd vl q 0) (by rw [lm_cl (by omega)]) ⟨n + 1, ?_⟩⟩) (fun z => absurd z (Nat.lt_irrefl 4))
    exact lm_xLoop T hq post hp n 0 (n + 1) 0 0 0 _ _ ev vv (upd vl q 0) (by omega) (by omega) (by omega) (Or.inl rfl) lm_P0 he ⟨pk_us, fun j hj => absurd hj (Nat.not_lt_zero j)⟩ (lm_FrT hF lm_FrL)
  | succ d ih =>
    intro i f ev hi hf he h0 hF
    obtain ⟨f, rfl⟩ : ∃ f', f = f' + 1 := ⟨f - 1, by omega⟩
    have ea : nI (4 * q) + nI i = nI (4 * q + i) := nI_add _ _
    refine pk_le 4 i (fun z => by omega) (fun _ => ?_)
    rw [ea]
    refine ⟨vp_in_nI (by omega) (by omega), nm_r (e' := upd ev (4 * q + i) 0) (by rw [lm_cl (by omega)]) (nm_r (nI_1 i) ?_)⟩
    refine ih (i + 1) f _ (by omega) (by omega) ?_ (by omega) (lm_FrT hF (lm_FrE (by omega)))
    intro j hj
    by_cases e : j = i
    · rw [e, pk_us, if_neg (by omega)]
    · rw [pk_un (by omega)]
      exact he j (by omega)
theorem lm_xRun {n op q : Nat} {c l r t w la ev vv vl : Nat → Int32} (T : lm_Tie n op c t w) (hq : q < 64) (post : SX → Prop)
    (hp : ∀ ev' vv' vl' : Nat → Int32, lm_Fr q ev vv vl ev' vv' vl' → lm_M ev' (4 * q) (lm_V c l r n q) → lm_Vw vv' vl' q (lm_K c l r n q) (lm_G c l r n q) → post (nI n, nI op, c, l, r, t, w, ev', vv', vl', la)) :
    wpX_runProgram post (nI n, nI op, c, l, r, t, w, ev, vv, vl, la) (nI q) := by
  unfold wpX_runProgram
  refine nm_r (lm_i40 q) ⟨vp_in_nI (by omega) (by omega), nm_r (e' := upd ev (4 * q + 0) (nI q)) (by rw [lm_cl (by omega)]; rfl) ⟨4, ?_⟩⟩
  refine lm_xZero T hq post (ev0 := ev) hp 3 1 4 _ (by omega) (by omega) ?_ (by omega) (lm_FrE (by omega))
  intro j hj
  have e : j = 0 := by omega
  rw [e, pk_us, if_pos rfl]
