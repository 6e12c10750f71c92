/-! what is owed -/
/-- the same statements on both sides, X's places tied to them, X's results their pure picture -/
def i_Rel (k : Nat) (u : SX) (v : SY) : Prop := ∃ (n op : Nat) (c l r t w ev vv vl la va o vw : Nat → Int32) (p : Int32), u = (nI n, nI op, c, l, r, t, w, ev, vv, vl, la) ∧ v = (nI n, p, c, l, r, va, o, vw) ∧ lm_Tie n op c t w ∧ lm_Pc c l r n ev vv vl la
theorem lm_mk {k n op : Nat} {c l r t w ev vv vl la va o vw : Nat → Int32} {p : Int32} (T : lm_Tie n op c t w) (h : lm_Pc c l r n ev vv vl la) : i_Rel k (nI n, nI op, c, l, r, t, w, ev, vv, vl, la) (nI n, p, c, l, r, va, o, vw) := ⟨n, op, c, l, r, t, w, ev, vv, vl, la, va, o, vw, p, rfl, rfl, T, h⟩
theorem i_up {k : Nat} {u : SX} {v : SY} (h : i_Rel k u v) : i_Rel (k + 4) u v := h
theorem i_vc0 : wpX_init (fun u => wpY_init (fun v => i_Rel 0 u v)) := by
  unfold wpX_init
  exact lm_xMeas lm_tie0 _ (fun ev vv vl la h => lm_mk (k := 0) lm_tie0 h)
theorem i_vc_clear {k : Nat} {u : SX} {v : SY} (I : i_Rel k u v) (hk : k + 4 ≤ 2048) : wpX_clear (fun u' => wpY_clear (fun v' => i_Rel (k + 4) u' v') v) u := by
  obtain ⟨n, op, c, l, r, t, w, ev, vv, vl, la, va, o, vw, p, rfl, rfl, T, P⟩ := I
  unfold wpX_clear
  exact lm_xMeas (lm_tieC c t w) _ (fun ev' vv' vl' la' h => lm_mk (k := k + 4) (lm_tieC c t w) h)
theorem i_vc_open {k : Nat} {u : SX} {v : SY} (I : i_Rel k u v) (hk : k + 4 ≤ 2048) : wpX_open (fun r => wpY_open (fun r' => r' = r ∧ i_Rel (k + 4) u v) v) u := by
  have I2 := I
  obtain ⟨n, op, c, l, r, t, w, ev, vv, vl, la, va, o, vw, p, rfl, rfl, T, P⟩ := I
  unfold wpX_open
  exact lm_yOpen T.1 _ ⟨T.2.2.1, I2⟩
theorem i_vc_classes {k : Nat} {u : SX} {v : SY} (I : i_Rel k u v) (hk : k + 4 ≤ 2048) : wpX_classes (fun r => wpY_classes (fun r' v' => r' = r ∧ i_Rel (k + 4) u v') v) u := by
  obtain ⟨n, op, c, l, r, t, w, ev, vv, vl, la, va, o, vw, p, rfl, rfl, T, P⟩ := I
  obtain ⟨z, hX, hY⟩ := lm_diff (f1 := nI n) (f2 := nI op) (c := c) (l := l) (r := r) (t := t) (w := w) (ev := ev) (vv := vv) (vl := vl) (a := 0) (b := 63) (by omega) (by omega) P.2 (fun s hs => lm_K7 hs)
  unfold wpX_classes
  refine hX _ ?_
  unfold wpY_classes
  refine lm_yAll T.1 T.2.2.2.1 _ (fun p' va' o' vw' hV => ?_)
  exact hY _ _ _ _ _ _ _ _ hV _ ⟨rfl, lm_mk T P⟩
theorem i_vc_guessed {k : Nat} {u : SX} {v : SY} (I : i_Rel k u v) (hk : k + 4 ≤ 2048) (v1 : Int32) (v2 : Int32) : wpX_guessed (fun r => wpY_guessed (fun r' v' => r' = r ∧ i_Rel (k + 4) u v') v v1 v2) u v1 v2 := by
  obtain ⟨n, op, c, l, r, t, w, ev, vv, vl, la, va, o, vw, p, rfl, rfl, T, P⟩ := I
  obtain ⟨a, ha, ea⟩ := lm_63 v1
  obtain ⟨b, hb, eb⟩ := lm_63 v2
  unfold wpX_guessed
  refine nm_r ea (nm_r eb ?_)
  refine pk_lt b a (fun z => ?_) (fun z => ?_)
  · obtain ⟨y, hX, hY⟩ := lm_diff (f1 := nI n) (f2 := nI op) (c := c) (l := l) (r := r) (t := t) (w := w) (ev := ev) (vv := vv) (vl := vl) (a := b) (b := a) (by omega) ha P.2 (fun s hs => lm_K7 hs)
    refine hX _ ?_
    unfold wpY_guessed
    refine lm_yAll T.1 T.2.2.2.1 _ (fun p' va' o' vw' hV => nm_r ea (nm_r eb ?_))
    refine pk_le b a (fun _ => ?_) (fun x => by omega)
    exact hY _ _ _ _ _ _ _ _ hV _ ⟨rfl, lm_mk T P⟩
  · obtain ⟨y, hX, hY⟩ := lm_diff (f1 := nI n) (f2 := nI op) (c := c) (l := l) (r := r) (t := t) (w := w) (ev := ev) (vv := vv) (vl := vl) (a := a) (b := b) z hb P.2 (fun s hs => lm_K7 hs)
    refine hX _ ?_
    unfold wpY_guessed
    refine lm_yAll T.1 T.2.2.2.1 _ (fun p' va' o' vw' hV => nm_r ea (nm_r eb ?_))
    refine pk_le b a (fun x => ?_) (fun _ => ?_)
    · have e : a = b := by omega
      subst e
      exact hY _ _ _ _ _ _ _ _ hV _ ⟨rfl, lm_mk T P⟩
    · exact hY _ _ _ _ _ _ _ _ hV _ ⟨rfl, lm_mk T P⟩
theorem i_vc_least {k : Nat} {u : SX} {v : SY} (I : i_Rel k u v) (hk : k + 4 ≤ 2048) (v1 : Int32) : wpX_least (fun r => wpY_least (fun r' v' => r' = r ∧ i_Rel (k + 4) u v') v v1) u v1 := by
  obtain ⟨n, op, c, l, r, t, w, ev, vv, vl, la, va, o, vw, p, rfl, rfl, T, P⟩ := I
  obtain ⟨a, ha, ea⟩ := lm_63 v1
  obtain ⟨x, ex, hx⟩ := P.2 a ha
  unfold wpX_least
  rw [ea, lm_cl (q := a) (by omega)]
  refine ⟨lm_v64 ha, ?_⟩
  rw [ex]
  unfold wpY_least
  refine lm_yAll T.1 T.2.2.2.1 _ (fun p' va' o' vw' hV => ⟨x + 1, ?_⟩)
  exact lm_yLeast ha ea hx (fun s hs => lm_K7 hs) hV _ ⟨rfl, lm_mk T P⟩ x 0 (x + 1) (by omega) (by omega)
theorem i_vc_alike {k : Nat} {u : SX} {v : SY} (I : i_Rel k u v) (hk : k + 4 ≤ 2048) (v1 : Int32) : wpX_alike (fun r => wpY_alike (fun r' v' => r' = r ∧ i_Rel (k + 4) u v') v v1) u v1 := by
  obtain ⟨n, op, c, l, r, t, w, ev, vv, vl, la, va, o, vw, p, rfl, rfl, T, P⟩ := I
  obtain ⟨a, ha, ea⟩ := lm_63 v1
  obtain ⟨x, ex, hx⟩ := P.2 a ha
  obtain ⟨z, hX, hY⟩ := lm_alike (f1 := nI n) (f2 := nI op) (c := c) (l := l) (r := r) (t := t) (w := w) (ev := ev) (vv := vv) (vl := vl) ha ea hx P.2 (fun s hs => lm_K7 hs) 64 0 0 (by omega)
  unfold wpX_alike
  rw [ea, lm_cl (q := a) (by omega)]
  refine ⟨lm_v64 ha, nm_r ex ⟨65, hX _ ?_⟩⟩
  unfold wpY_alike
  refine lm_yAll T.1 T.2.2.2.1 _ (fun p' va' o' vw' hV => ⟨65, ?_⟩)
  exact hY _ _ _ _ _ _ _ _ hV _ ⟨rfl, lm_mk T P⟩
theorem i_vc_outputs {k : Nat} {u : SX} {v : SY} (I : i_Rel k u v) (hk : k + 4 ≤ 2048) (v1 : Int32) : wpX_outputs (fun r => wpY_outputs (fun r' v' => r' = r ∧ i_Rel (k + 4) u v') v v1) u v1 := by
  obtain ⟨n, op, c, l, r, t, w, ev, vv, vl, la, va, o, vw, p, rfl, rfl, T, P⟩ := I
  obtain ⟨a, ha, ea⟩ := lm_63 v1
  unfold wpX_outputs wpY_outputs
  rw [ea, lm_cl (q := a) (by omega)]
  refine ⟨lm_v64 ha, lm_yRun T.1 T.2.2.2.1 ha _ (fun k' va' vw' ek hA hO hF => ⟨lm_v64 ha, ?_, lm_mk T P⟩)⟩
  rw [pk_us, ((P.1 a ha).2).1, ek]
theorem i_vc_output {k : Nat} {u : SX} {v : SY} (I : i_Rel k u v) (hk : k + 4 ≤ 2048) (v1 : Int32) (v2 : Int32) : wpX_output (fun r => wpY_output (fun r' v' => r' = r ∧ i_Rel (k + 4) u v') v v1 v2) u v1 v2 := by
  obtain ⟨n, op, c, l, r, t, w, ev, vv, vl, la, va, o, vw, p, rfl, rfl, T, P⟩ := I
  obtain ⟨a, ha, ea⟩ := lm_63 v1
  have h7 := lm_K7 (c := c) (l := l) (r := r) (n := n) ha
  obtain ⟨q1, q2⟩ := (P.1 a ha).2
  unfold wpX_output wpY_output
  rw [ea]
  refine nm_e ?_
  rw [lm_cl (q := a) (by omega), q1]
  by_cases h0 : v2 < 0
  · exact br_t h0 (lm_yRun T.1 T.2.2.2.1 ha _ (fun k' va' vw' ek hA hO hF => br_t h0 ⟨rfl, lm_mk T P⟩))
  · obtain ⟨j, hj, rfl⟩ := nI_of h0
    refine br_f h0 ⟨lm_v64 ha, pk_lt j (lm_K c l r n a) (fun z => ?_) (fun z => ?_)⟩
    · rw [lm_i7, lm_i7', lm_cl (q := 7 * a + j) (by omega), q2 j z]
      refine ⟨vp_in_nI (by omega) (by omega), lm_yRun T.1 T.2.2.2.1 ha _ (fun k' va' vw' ek hA hO hF => br_f h0 ⟨lm_v64 ha, ?_⟩)⟩
      rw [pk_us, ek]
      refine pk_lt j (lm_K c l r n a) (fun _ => ⟨vp_in_nI (by omega) (by omega), ?_, lm_mk T P⟩) (fun x => by omega)
      exact hO j (by omega)
    · refine lm_yRun T.1 T.2.2.2.1 ha _ (fun k' va' vw' ek hA hO hF => br_f h0 ⟨lm_v64 ha, ?_⟩)
      rw [pk_us, ek]
      exact pk_lt j (lm_K c l r n a) (fun x => by omega) (fun _ => ⟨rfl, lm_mk T P⟩)
theorem i_vc_end {k : Nat} {u : SX} {v : SY} (I : i_Rel k u v) (hk : k + 4 ≤ 2048) (v1 : Int32) (v2 : Int32) : wpX_end (fun r => wpY_end (fun r' v' => r' = r ∧ i_Rel (k + 4) u v') v v1 v2) u v1 v2 := by
  obtain ⟨n, op, c, l, r, t, w, ev, vv, vl, la, va, o, vw, p, rfl, rfl, T, P⟩ := I
  obtain ⟨a, ha, ea⟩ := lm_63 v1
  have hi := lm_ix_lt v2
  unfold wpX_end wpY_end
  rw [ea, lm_ix_eq v2, lm_i4, lm_cl (q := 4 * a + lm_ix v2) (by omega), lm_cl (q := lm_ix v2) (by omega)]
  refine ⟨vp_in_nI (by omega) (by omega), lm_yRun T.1 T.2.2.2.1 ha _ (fun k' va' vw' ek hA hO hF => ⟨vp_in_nI hi (by omega), (hA _ hi).trans ((P.1 a ha).1 _ hi).symm, lm_mk T P⟩)⟩
