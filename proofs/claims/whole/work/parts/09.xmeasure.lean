/-! X's measure: the views are compared, the least of each is kept -/
section
variable {f1 f2 : Int32} {c l r t w ev vv vl la : Nat → Int32} {K : Nat → Nat} {G : Nat → Nat → Int32}
theorem lm_xSameL {a b : Nat} (ha : a < 64) (hb : b < 64) (h7 : K a ≤ 7) (e : K a = K b) (hA : lm_Vw vv vl a (K a) (G a)) (hB : lm_Vw vv vl b (K b) (G b)) (post : Int32 → Prop) (h1 : lm_sv K G a b → post 1) (h0 : ¬ lm_sv K G a b → post 0) :
    ∀ d j f : Nat, j + d = K a → d < f → (∀ i, i < j → G a i = G b i) → wX_haveSameView_19 post (nI a) (nI b) f1 f2 c l r t w ev vv vl la f (nI j) := by
  intro d
  induction d with
  | zero =>
    intro j f hj hf hg
    obtain ⟨f, rfl⟩ : ∃ f', f = f' + 1 := ⟨f - 1, by omega⟩
    refine ⟨lm_v64 ha, ?_⟩
    rw [lm_cl (q := a) (by omega), hA.1]
    exact pk_le (K a) j (fun _ => h1 ⟨e, fun i hi => hg i (by omega)⟩) (fun z => by omega)
  | succ d ih =>
    intro j f hj hf hg
    obtain ⟨f, rfl⟩ : ∃ f', f = f' + 1 := ⟨f - 1, by omega⟩
    refine ⟨lm_v64 ha, ?_⟩
    rw [lm_cl (q := a) (by omega), hA.1]
    refine pk_le (K a) j (fun z => by omega) (fun _ => ?_)
    rw [lm_i7, lm_i7, lm_cl (q := 7 * a + j) (by omega), lm_cl (q := 7 * b + j) (by omega), hA.2 j (by omega), hB.2 j (by omega)]
    refine ⟨vp_in_nI (by omega) (by omega), vp_in_nI (by omega) (by omega), br_c (fun z => nm_r (nI_1 j) (ih (j + 1) f (by omega) (by omega) ?_)) (fun z => h0 ?_)⟩
    · intro i hi
      by_cases ei : i = j
      · rw [ei]; exact z
      · exact hg i (by omega)
    · exact fun s => z (s.2 j (by omega))
theorem lm_xSame {a b : Nat} (ha : a < 64) (hb : b < 64) (h7 : ∀ s, s < 64 → K s ≤ 7) (hV : ∀ s, s < 64 → lm_Vw vv vl s (K s) (G s)) (post : Int32 → Prop) (h1 : lm_sv K G a b → post 1) (h0 : ¬ lm_sv K G a b → post 0) :
    wpX_haveSameView post (f1, f2, c, l, r, t, w, ev, vv, vl, la) (nI a) (nI b) := by
  have x7 := h7 a ha
  have y7 := h7 b hb
  unfold wpX_haveSameView
  refine ⟨lm_v64 ha, lm_v64 hb, ?_⟩
  rw [lm_cl (q := a) (by omega), lm_cl (q := b) (by omega), (hV a ha).1, (hV b hb).1]
  refine pk_eq (K a) (K b) (fun z => ⟨K a + 1, ?_⟩) (fun z => h0 (fun s => z s.1))
  exact lm_xSameL ha hb x7 z (hV a ha) (hV b hb) post h1 h0 (K a) 0 (K a + 1) (by omega) (by omega) (fun i hi => absurd hi (Nat.not_lt_zero i))
theorem lm_xFirst {s : Nat} (hs : s < 64) (h7 : ∀ s, s < 64 → K s ≤ 7) (hV : ∀ s, s < 64 → lm_Vw vv vl s (K s) (G s)) (post : Int32 → Prop) (h : ∀ x : Nat, lm_Ls K G s x → post (nI x)) :
    ∀ d j f : Nat, j + d = s → d < f → (∀ i, i < j → ¬ lm_sv K G i s) → wX_firstWithSameView_2 post (nI s) f1 f2 c l r t w ev vv vl la f (nI j) := by
  intro d
  induction d with
  | zero =>
    intro j f hj hf hg
    obtain ⟨f, rfl⟩ : ∃ f', f = f' + 1 := ⟨f - 1, by omega⟩
    refine pk_le s j (fun _ => h s ⟨Nat.le_refl s, lm_svR s, fun i hi => hg i (by omega)⟩) (fun z => by omega)
  | succ d ih =>
    intro j f hj hf hg
    obtain ⟨f, rfl⟩ : ∃ f', f = f' + 1 := ⟨f - 1, by omega⟩
    refine pk_le s j (fun z => by omega) (fun _ => lm_xSame (K := K) (G := G) (by omega) hs h7 hV _ (fun z => ?_) (fun z => ?_))
    · exact br_f (by decide) (h j ⟨by omega, z, hg⟩)
    · refine br_t rfl (nm_r (nI_1 j) (ih (j + 1) f (by omega) (by omega) ?_))
      intro i hi
      by_cases ei : i = j
      · rw [ei]; exact z
      · exact hg i (by omega)
theorem lm_xM21 (h7 : ∀ s, s < 64 → K s ≤ 7) (hV : ∀ s, s < 64 → lm_Vw vv vl s (K s) (G s)) (post : SX → Prop) (hp : ∀ la' : Nat → Int32, (∀ s, s < 64 → ∃ x : Nat, la' s = nI x ∧ lm_Ls K G s x) → post (f1, f2, c, l, r, t, w, ev, vv, vl, la')) :
    ∀ (d i f : Nat) (la : Nat → Int32), i + d = 64 → d < f → (∀ s, s < i → ∃ x : Nat, la s = nI x ∧ lm_Ls K G s x) → wX_measure_21 post f1 f2 f (nI i) c l r t w ev vv vl la := by
  intro d
  induction d with
  | zero =>
    intro i f la hi hf hl
    obtain ⟨f, rfl⟩ : ∃ f', f = f' + 1 := ⟨f - 1, by omega⟩
    exact pk_le 64 i (fun _ => hp la (fun s hs => hl s (by omega))) (fun z => by omega)
  | succ d ih =>
    intro i f la hi hf hl
    obtain ⟨f, rfl⟩ : ∃ f', f = f' + 1 := ⟨f - 1, by omega⟩
    refine pk_le 64 i (fun z => by omega) (fun _ => ?_)
    unfold wpX_firstWithSameView
    refine ⟨i + 1, lm_xFirst (K := K) (G := G) (by omega) h7 hV _ (fun x hx => ?_) i 0 (i + 1) (by omega) (by omega) (fun j hj => absurd hj (Nat.not_lt_zero j))⟩
    refine ⟨lm_v64 (by omega), nm_r (e' := upd la i (nI x)) (by rw [lm_cl (by omega)]) (nm_r (nI_1 i) (ih (i + 1) f _ (by omega) (by omega) ?_))⟩
    intro s hs
    by_cases es : s = i
    · rw [es]; exact ⟨x, pk_us, hx⟩
    · rw [pk_un es]; exact hl s (by omega)
end
theorem lm_xM2 {n op : Nat} {c l r t w la : Nat → Int32} (T : lm_Tie n op c t w) (post : SX → Prop)
    (hp : ∀ ev vv vl la' : Nat → Int32, lm_Pc c l r n ev vv vl la' → post (nI n, nI op, c, l, r, t, w, ev, vv, vl, la')) :
    ∀ (d i f : Nat) (ev vv vl : Nat → Int32), i + d = 64 → d < f → (∀ s, s < i → lm_M ev (4 * s) (lm_V c l r n s) ∧ lm_Vw vv vl s (lm_K c l r n s) (lm_G c l r n s)) → wX_measure_2 post f (nI i) (nI n) (nI op) c l r t w ev vv vl la := by
  intro d
  induction d with
  | zero =>
    intro i f ev vv vl hi hf hs
    obtain ⟨f, rfl⟩ : ∃ f', f = f' + 1 := ⟨f - 1, by omega⟩
    refine pk_le 64 i (fun _ => ⟨65, ?_⟩) (fun z => by omega)
    refine lm_xM21 (K := lm_K c l r n) (G := lm_G c l r n) (fun s hs => lm_K7 hs) (fun s h => (hs s (by omega)).2) post ?_ 64 0 65 la (by omega) (by omega) (fun s h => absurd h (Nat.not_lt_zero s))
    intro la' hl
    exact hp ev vv vl la' ⟨fun s h => hs s (by omega), hl⟩
  | succ d ih =>
    intro i f ev vv vl hi hf hs
    obtain ⟨f, rfl⟩ : ∃ f', f = f' + 1 := ⟨f - 1, by omega⟩
    refine pk_le 64 i (fun z => by omega) (fun _ => lm_xRun T (by omega) _ ?_)
    intro ev' vv' vl' hF hM hV
    refine nm_r (nI_1 i) (ih (i + 1) f ev' vv' vl' (by omega) (by omega) ?_)
    intro s h
    by_cases es : s = i
    · rw [es]; exact ⟨hM, hV⟩
    · obtain ⟨b1, b2, b3⟩ := hF s (by omega) es
      obtain ⟨a1, a2, a3⟩ := hs s (by omega)
      refine ⟨fun j hj => (b1 j hj).trans (a1 j hj), b2.trans a2, fun j hj => (b3 j ?_).trans (a3 j hj)⟩
      have := lm_K7 (c := c) (l := l) (r := r) (n := n) (q := s) (by omega)
      omega
theorem lm_xMeas {n op : Nat} {c l r t w ev vv vl la : Nat → Int32} (T : lm_Tie n op c t w) (post : SX → Prop)
    (hp : ∀ ev' vv' vl' la' : Nat → Int32, lm_Pc c l r n ev' vv' vl' la' → post (nI n, nI op, c, l, r, t, w, ev', vv', vl', la')) :
    wpX_measure post (nI n, nI op, c, l, r, t, w, ev, vv, vl, la) := by
  unfold wpX_measure
  exact ⟨65, lm_xM2 T post hp 64 0 65 ev vv vl (by omega) (by omega) (fun s h => absurd h (Nat.not_lt_zero s))⟩
