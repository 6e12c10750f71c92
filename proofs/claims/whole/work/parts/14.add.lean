/-! add -/
section
variable {n op : Nat} {c l r t w ev vv vl la va o vw : Nat → Int32} {p : Int32}
theorem lm_xAdd0 {x y z : Int32} (hH : ∀ Q : Int32 → Prop, Q 0 → wpX_hasPlace Q (nI n, nI op, c, l, r, t, w, ev, vv, vl, la) x) (post : Int32 → SX → Prop) (h : post (-1) (nI n, nI op, c, l, r, t, w, ev, vv, vl, la)) : wpX_add post (nI n, nI op, c, l, r, t, w, ev, vv, vl, la) x y z := by
  unfold wpX_add
  exact hH _ (br_t rfl h)
theorem lm_xAdd1 {op' : Nat} {t' w' : Nat → Int32} {x y z : Int32} (hn : n < 40) (hH : ∀ Q : Int32 → Prop, Q 1 → wpX_hasPlace Q (nI n, nI op, c, l, r, t, w, ev, vv, vl, la) x)
    (hT : ∀ Q : SX → Prop, Q (nI n, nI op', upd c n x, upd l n y, upd r n z, t', w', ev, vv, vl, la) → wpX_tieToPart Q (nI n, nI op, upd c n x, upd l n y, upd r n z, upd t n 40, w, ev, vv, vl, la) x (nI n))
    (T' : lm_Tie (n + 1) op' (upd c n x) t' w') (post : Int32 → SX → Prop)
    (h : ∀ ev' vv' vl' la' : Nat → Int32, lm_Pc (upd c n x) (upd l n y) (upd r n z) (n + 1) ev' vv' vl' la' → post (nI (n + 1)) (nI (n + 1), nI op', upd c n x, upd l n y, upd r n z, t', w', ev', vv', vl', la')) :
    wpX_add post (nI n, nI op, c, l, r, t, w, ev, vv, vl, la) x y z := by
  have vn : vp_in (nI n) 40 := lm_v40 hn
  unfold wpX_add
  refine hH _ (br_f (by decide) ?_)
  rw [lm_cl (q := n) (by omega)]
  refine ⟨vn, nm_e ⟨vn, nm_e ⟨vn, nm_e ⟨vn, nm_e (hT _ (nm_r (nI_1 n) (lm_xMeas T' _ (fun ev' vv' vl' la' hP => h ev' vv' vl' la' hP))))⟩⟩⟩⟩
theorem lm_y73 {x y z : Int32} (hn : n < 40) (post : Int32 → SY → Prop) (h : post (nI (n + 1)) (nI (n + 1), p, upd c n x, upd l n y, upd r n z, va, o, vw)) : wY_add_73 post x y z (nI n) p c l r va o vw := by
  have vn : vp_in (nI n) 40 := lm_v40 hn
  unfold wY_add_73
  rw [lm_cl (q := n) (by omega)]
  exact ⟨vn, nm_e ⟨vn, nm_e ⟨vn, nm_e (nm_r (nI_1 n) h)⟩⟩⟩
/-- X's way into the codes 13 to 15 -/
theorem lm_xHas {j : Nat} (h13 : 13 ≤ j) (hj : j < 16) (hn : n < 40) (Q : Int32 → Prop)
    (h1 : j = 13 → (4 ≤ op → Q 0) ∧ (op < 4 → Q 1)) (h2 : j = 14 → op = 0 → Q 0) (h3 : j = 14 → 0 < op → ∃ i : Nat, i < n ∧ w (op - 1) = nI i ∧ (c i = 13 → Q 1) ∧ (c i ≠ 13 → Q 0)) (h4 : j = 15 → (op = 0 → Q 0) ∧ (0 < op → Q 1)) (ho : op ≤ 4) :
    wpX_hasPlace Q (nI n, nI op, c, l, r, t, w, ev, vv, vl, la) (nI j) := by
  unfold wpX_hasPlace
  have a15 : ¬ (15 : Int32) < nI j := nI_nlt (a := 15) (b := j) (by omega) (by omega)
  refine br_f (nI_pos (by omega)) (br_f a15 (br_t (nI_lt (b := 40) hn (by omega)) (br_f (nI_nlt (a := j) (b := 13) h13 (by omega)) (br_f a15 ?_))))
  refine pk_eq j 13 (fun e => ?_) (fun e13 => ?_)
  · exact pk_le 4 op (fun z => (h1 e).1 z) (fun z => (h1 e).2 z)
  · refine pk_eq j 14 (fun e => ?_) (fun e14 => ?_)
    · refine pk_le op 0 (fun z => h2 e (by omega)) (fun z => ?_)
      obtain ⟨i, hi, ei, q1, q0⟩ := h3 e z
      obtain ⟨m, rfl⟩ : ∃ m, op = m + 1 := ⟨op - 1, by omega⟩
      have ei' : w m = nI i := ei
      rw [nI_pred, lm_cl (q := m) (by omega), ei', lm_cl (q := i) (by omega)]
      exact ⟨vp_in_nI (by omega) (by omega), lm_v40 (by omega), br_c q1 q0⟩
    · refine pk_eq j 15 (fun e => ?_) (fun _ => trivial)
      exact pk_le op 0 (fun z => (h4 e).1 (by omega)) (fun z => (h4 e).2 z)
theorem lm_xHasO {j : Nat} (hj : j < 13) (hn : n < 40) (Q : Int32 → Prop) (h : Q 1) : wpX_hasPlace Q (nI n, nI op, c, l, r, t, w, ev, vv, vl, la) (nI j) := by
  unfold wpX_hasPlace
  have a15 : ¬ (15 : Int32) < nI j := nI_nlt (a := 15) (b := j) (by omega) (by omega)
  exact br_f (nI_pos (by omega)) (br_f a15 (br_t (nI_lt (b := 40) hn (by omega)) (br_t (nI_lt (b := 13) hj (by omega)) h)))
theorem lm_xT13 (ho : op < 4) (Q : SX → Prop) (h : Q (nI n, nI (op + 1), c, l, r, t, upd w op (nI n), ev, vv, vl, la)) : wpX_tieToPart Q (nI n, nI op, c, l, r, t, w, ev, vv, vl, la) 13 (nI n) := by
  unfold wpX_tieToPart
  refine br_f (by decide) (br_f (by decide) (br_t rfl ⟨vp_in_nI (by omega) (by omega), ?_⟩))
  rw [lm_cl (q := op) (by omega)]
  exact nm_e (nm_r (nI_1 op) h)
theorem lm_xT14 {i : Nat} (ho : 0 < op) (ho4 : op ≤ 4) (hi : i < 40) (ei : w (op - 1) = nI i) (Q : SX → Prop) (h : Q (nI n, nI op, c, l, r, upd t i (nI (n + 1)), upd w (op - 1) (nI n), ev, vv, vl, la)) : wpX_tieToPart Q (nI n, nI op, c, l, r, t, w, ev, vv, vl, la) 14 (nI n) := by
  obtain ⟨m, rfl⟩ : ∃ m, op = m + 1 := ⟨op - 1, by omega⟩
  have ei' : w m = nI i := ei
  have vm : vp_in (nI m) 4 := vp_in_nI (by omega) (by omega)
  unfold wpX_tieToPart
  refine br_f (by decide) (br_f (by decide) (br_f (by decide) (br_t rfl ?_)))
  rw [nI_pred, lm_cl (q := m) (by omega), ei', lm_cl (q := i) (by omega), nI_1 n]
  exact ⟨vm, lm_v40 hi, nm_e ⟨vm, nm_e h⟩⟩
theorem lm_xT15 {i : Nat} (ho : 0 < op) (ho4 : op ≤ 4) (hi : i < 40) (ei : w (op - 1) = nI i) (Q : SX → Prop) (h : Q (nI n, nI (op - 1), c, l, r, upd t i (nI (n + 1)), w, ev, vv, vl, la)) : wpX_tieToPart Q (nI n, nI op, c, l, r, t, w, ev, vv, vl, la) 15 (nI n) := by
  obtain ⟨m, rfl⟩ : ∃ m, op = m + 1 := ⟨op - 1, by omega⟩
  have ei' : w m = nI i := ei
  have vm : vp_in (nI m) 4 := vp_in_nI (by omega) (by omega)
  unfold wpX_tieToPart
  refine br_f (by decide) (br_f (by decide) (br_f (by decide) (br_f (by decide) (br_t rfl (nm_r (nI_pred m) ?_)))))
  rw [lm_cl (q := m) (by omega), ei', lm_cl (q := i) (by omega), nI_1 n]
  exact ⟨vm, lm_v40 hi, nm_e h⟩
theorem lm_xTO {j : Nat} (hj : j < 13) (Q : SX → Prop) (h : Q (nI n, nI op, c, l, r, t, w, ev, vv, vl, la)) : wpX_tieToPart Q (nI n, nI op, c, l, r, t, w, ev, vv, vl, la) (nI j) (nI n) := by
  unfold wpX_tieToPart
  exact br_t (nI_lt (b := 13) hj (by omega)) h
end
theorem lm_addO {k n op j : Nat} {c l r t w ev vv vl la va o vw : Nat → Int32} {p y z : Int32} (T : lm_Tie n op c t w) (hn : n < 40) (hj : j < 13) : wpX_add (fun r1 u' => wpY_add (fun r' v' => r' = r1 ∧ i_Rel (k + 4) u' v') (nI n, p, c, l, r, va, o, vw) (nI j) y z) (nI n, nI op, c, l, r, t, w, ev, vv, vl, la) (nI j) y z := by
  have T' := lm_tieO T hn hj
  refine lm_xAdd1 hn (fun Q h => lm_xHasO hj hn Q h) (fun Q h => lm_xTO hj Q h) T' _ (fun ev' vv' vl' la' hP => ?_)
  have e13 : ¬ nI j = 13 := lm_ne (i := 13) (by omega) (by omega) (by omega)
  have e14 : ¬ nI j = 14 := lm_ne (i := 14) (by omega) (by omega) (by omega)
  have e15 : ¬ nI j = 15 := lm_ne (i := 15) (by omega) (by omega) (by omega)
  unfold wpY_add
  refine br_f (nI_pos (by omega)) (br_f (nI_nlt (a := 15) (b := j) (by omega) (by omega)) (br_f (fun g => ?_) (br_f e13 ?_)))
  · have := (nI_eq (a := n) (b := 40) (by omega) (by omega)).mp g
    omega
  · unfold wY_add_37 wY_add_58
    exact br_f e14 (br_f e15 (br_f e14 (lm_y73 hn _ ⟨rfl, lm_mk T' hP⟩)))
theorem lm_n40 {n : Nat} (hn : n < 40) : ¬ nI n = 40 := fun g => by
  have := (nI_eq (a := n) (b := 40) (by omega) (by omega)).mp g
  omega
theorem lm_addI {k n op : Nat} {c l r t w ev vv vl la va o vw : Nat → Int32} {p y z : Int32} (T : lm_Tie n op c t w) (P : lm_Pc c l r n ev vv vl la) (hn : n < 40) : wpX_add (fun r1 u' => wpY_add (fun r' v' => r' = r1 ∧ i_Rel (k + 4) u' v') (nI n, p, c, l, r, va, o, vw) 13 y z) (nI n, nI op, c, l, r, t, w, ev, vv, vl, la) 13 y z := by
  have ho := T.2.1
  by_cases h4 : op < 4
  · have T' := lm_tieI T hn h4
    refine lm_xAdd1 hn (fun Q h => lm_xHas (j := 13) (by omega) (by omega) hn Q (fun _ => ⟨fun g => absurd h4 (by omega), fun _ => h⟩) (fun g => absurd g (by omega)) (fun g => absurd g (by omega)) (fun g => absurd g (by omega)) ho) (fun Q h => lm_xT13 h4 Q h) T' _ (fun ev' vv' vl' la' hP => ?_)
    unfold wpY_add
    refine br_f (by decide) (br_f (by decide) (br_f (lm_n40 hn) (br_t rfl (lm_yOpen T.1 _ (br_f ?_ ?_)))))
    · rw [T.2.2.1]
      intro g
      have := (nI_eq (a := op) (b := 4) (by omega) (by omega)).mp g
      omega
    · unfold wY_add_37 wY_add_58
      exact br_f (by decide) (br_f (by decide) (br_f (by decide) (lm_y73 hn _ ⟨rfl, lm_mk T' hP⟩)))
  · refine lm_xAdd0 (fun Q h => lm_xHas (j := 13) (by omega) (by omega) hn Q (fun _ => ⟨fun _ => h, fun g => absurd g h4⟩) (fun g => absurd g (by omega)) (fun g => absurd g (by omega)) (fun g => absurd g (by omega)) ho) _ ?_
    unfold wpY_add
    refine br_f (by decide) (br_f (by decide) (br_f (lm_n40 hn) (br_t rfl (lm_yOpen T.1 _ (br_t ?_ ⟨rfl, lm_mk T P⟩)))))
    rw [T.2.2.1]
    have e : op = 4 := by omega
    rw [e]
    rfl
theorem lm_addE {k n op : Nat} {c l r t w ev vv vl la va o vw : Nat → Int32} {p y z : Int32} (T : lm_Tie n op c t w) (P : lm_Pc c l r n ev vv vl la) (hn : n < 40) : wpX_add (fun r1 u' => wpY_add (fun r' v' => r' = r1 ∧ i_Rel (k + 4) u' v') (nI n, p, c, l, r, va, o, vw) 14 y z) (nI n, nI op, c, l, r, t, w, ev, vv, vl, la) 14 y z := by
  have ho := T.2.1
  by_cases h0 : op = 0
  · refine lm_xAdd0 (fun Q h => lm_xHas (j := 14) (by omega) (by omega) hn Q (fun g => absurd g (by omega)) (fun _ _ => h) (fun _ g => absurd h0 (by omega)) (fun g => absurd g (by omega)) ho) _ ?_
    unfold wpY_add
    refine br_f (by decide) (br_f (by decide) (br_f (lm_n40 hn) (br_f (by decide) ?_)))
    unfold wY_add_37 wY_add_49
    refine br_t rfl (lm_yOpen T.1 _ (br_t ?_ ⟨rfl, lm_mk T P⟩))
    rw [T.2.2.1, h0]
    rfl
  · obtain ⟨i, hi, ei, hc, hS⟩ := lm_top T (by omega)
    have ne0 : ¬ lm_cn c n = 0 := by
      rw [T.2.2.1]
      exact nI_ne0 (by omega) (by omega)
    by_cases h13 : c i = 13
    · have T' := lm_tieE T hn (by omega) ei hi h13
      refine lm_xAdd1 hn (fun Q h => lm_xHas (j := 14) (by omega) (by omega) hn Q (fun g => absurd g (by omega)) (fun _ g => absurd g h0) (fun _ _ => ⟨i, hi, ei, fun _ => h, fun g => absurd h13 g⟩) (fun g => absurd g (by omega)) ho) (fun Q h => lm_xT14 (i := i) (by omega) ho (by omega) ei Q h) T' _ (fun ev' vv' vl' la' hP => ?_)
      unfold wpY_add
      refine br_f (by decide) (br_f (by decide) (br_f (lm_n40 hn) (br_f (by decide) ?_)))
      unfold wY_add_37 wY_add_49 wY_add_58
      refine br_t rfl (lm_yOpen T.1 _ (br_f ne0 (br_t rfl (lm_yElse T.1 hi hS _ (fun _ => br_t rfl ?_) (fun g => ?_) hc))))
      · exact lm_y73 hn _ ⟨rfl, lm_mk T' hP⟩
      · rw [h13] at g
        exact absurd g lm_d2
    · refine lm_xAdd0 (fun Q h => lm_xHas (j := 14) (by omega) (by omega) hn Q (fun g => absurd g (by omega)) (fun _ g => absurd g h0) (fun _ _ => ⟨i, hi, ei, fun g => absurd g h13, fun _ => h⟩) (fun g => absurd g (by omega)) ho) _ ?_
      unfold wpY_add
      refine br_f (by decide) (br_f (by decide) (br_f (lm_n40 hn) (br_f (by decide) ?_)))
      unfold wY_add_37 wY_add_49 wY_add_58
      exact br_t rfl (lm_yOpen T.1 _ (br_f ne0 (br_t rfl (lm_yElse T.1 hi hS _ (fun g => absurd g h13) (fun _ => br_f (by decide) ⟨rfl, lm_mk T P⟩) hc))))
theorem lm_addD {k n op : Nat} {c l r t w ev vv vl la va o vw : Nat → Int32} {p y z : Int32} (T : lm_Tie n op c t w) (P : lm_Pc c l r n ev vv vl la) (hn : n < 40) : wpX_add (fun r1 u' => wpY_add (fun r' v' => r' = r1 ∧ i_Rel (k + 4) u' v') (nI n, p, c, l, r, va, o, vw) 15 y z) (nI n, nI op, c, l, r, t, w, ev, vv, vl, la) 15 y z := by
  have ho := T.2.1
  by_cases h0 : op = 0
  · refine lm_xAdd0 (fun Q h => lm_xHas (j := 15) (by omega) (by omega) hn Q (fun g => absurd g (by omega)) (fun g => absurd g (by omega)) (fun g => absurd g (by omega)) (fun _ => ⟨fun _ => h, fun g => absurd h0 (by omega)⟩) ho) _ ?_
    unfold wpY_add
    refine br_f (by decide) (br_f (by decide) (br_f (lm_n40 hn) (br_f (by decide) ?_)))
    unfold wY_add_37 wY_add_49
    refine br_f (by decide) (br_t rfl (lm_yOpen T.1 _ (br_t ?_ ⟨rfl, lm_mk T P⟩)))
    rw [T.2.2.1, h0]
    rfl
  · obtain ⟨i, hi, ei, hc, hS⟩ := lm_top T (by omega)
    have ne0 : ¬ lm_cn c n = 0 := by
      rw [T.2.2.1]
      exact nI_ne0 (by omega) (by omega)
    have T' := lm_tieD T hn (by omega) ei hi
    refine lm_xAdd1 hn (fun Q h => lm_xHas (j := 15) (by omega) (by omega) hn Q (fun g => absurd g (by omega)) (fun g => absurd g (by omega)) (fun g => absurd g (by omega)) (fun _ => ⟨fun g => absurd g h0, fun _ => h⟩) ho) (fun Q h => lm_xT15 (i := i) (by omega) ho (by omega) ei Q h) T' _ (fun ev' vv' vl' la' hP => ?_)
    unfold wpY_add
    refine br_f (by decide) (br_f (by decide) (br_f (lm_n40 hn) (br_f (by decide) ?_)))
    unfold wY_add_37 wY_add_49 wY_add_58
    exact br_f (by decide) (br_t rfl (lm_yOpen T.1 _ (br_f ne0 (br_f (by decide) (lm_y73 hn _ ⟨rfl, lm_mk T' hP⟩)))))
theorem i_vc_add {k : Nat} {u : SX} {v : SY} (I : i_Rel k u v) (hk : k + 4 ≤ 2048) (v1 : Int32) (v2 : Int32) (v3 : Int32) : wpX_add (fun r u' => wpY_add (fun r' v' => r' = r ∧ i_Rel (k + 4) u' v') v v1 v2 v3) u v1 v2 v3 := by
  obtain ⟨n, op, c, l, r, t, w, ev, vv, vl, la, va, o, vw, p, rfl, rfl, T, P⟩ := I
  by_cases h0 : v1 < 0
  · refine lm_xAdd0 (fun Q h => ?_) _ ?_
    · unfold wpX_hasPlace
      exact br_t h0 h
    · unfold wpY_add
      exact br_t h0 ⟨rfl, lm_mk T P⟩
  · by_cases h15 : (15 : Int32) < v1
    · refine lm_xAdd0 (fun Q h => ?_) _ ?_
      · unfold wpX_hasPlace
        exact br_f h0 (br_t h15 h)
      · unfold wpY_add
        exact br_f h0 (br_t h15 ⟨rfl, lm_mk T P⟩)
    · obtain ⟨j, hj, rfl⟩ := nI_of2 (M := 15) (n := 15) (by decide) h0 (Int32.not_lt.mp h15)
      by_cases hn : n < 40
      · by_cases hj13 : j < 13
        · exact lm_addO T hn hj13
        · by_cases e13 : j = 13
          · subst e13
            exact lm_addI T P hn
          · by_cases e14 : j = 14
            · subst e14
              exact lm_addE T P hn
            · have e15 : j = 15 := by omega
              subst e15
              exact lm_addD T P hn
      · have en : n = 40 := by
          have := T.1
          omega
        subst en
        refine lm_xAdd0 (fun Q h => ?_) _ ?_
        · unfold wpX_hasPlace
          exact br_f h0 (br_f h15 (br_f (by decide) h))
        · unfold wpY_add
          exact br_f h0 (br_f h15 (br_t rfl ⟨rfl, lm_mk T P⟩))
