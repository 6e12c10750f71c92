/-! views compared by the reference; counts in lockstep -/
section
variable {f1 f2 p : Int32} {c l r t w ev vv vl la va o vw : Nat → Int32} {n2 : Int32} {K : Nat → Nat} {G : Nat → Nat → Int32}
theorem lm_ySameL {a b : Nat} (ha : a < 64) (hb : b < 64) (h7 : K a ≤ 7) (e : K a = K b) (hA : lm_Vw vw o a (K a) (G a)) (hB : lm_Vw vw o b (K b) (G b)) (post : Int32 → Prop) (h1 : lm_sv K G a b → post 1) (h0 : ¬ lm_sv K G a b → post 0) :
    ∀ d j f : Nat, j + d = K a → d < f → (∀ i, i < j → G a i = G b i) → wY_same_19 post (nI a) (nI b) n2 p c l r va o vw f (nI j) := by
  intro d
  induction d with
  | zero =>
    intro j f hj hf hg
    obtain ⟨f, rfl⟩ := lm_f1 hf
    refine ⟨lm_v64 ha, ?_⟩
    rw [lm_cl (q := a) (by omega), hA.1]
    exact pk_le (K a) j (fun _ => h1 ⟨e, fun i hi => hg i (by omega)⟩) (fun z => by omega)
  | succ d ih =>
    intro j f hj hf hg
    obtain ⟨f, rfl⟩ := lm_f1 hf
    refine ⟨lm_v64 ha, ?_⟩
    rw [lm_cl (q := a) (by omega), hA.1]
    refine pk_le (K a) j (fun z => by omega) (fun _ => ?_)
    rw [lm_i7', lm_i7', lm_cl (q := 7 * a + j) (by omega), lm_cl (q := 7 * b + j) (by omega), hA.2 j (by omega), hB.2 j (by omega)]
    refine ⟨vp_in_nI (by omega) (by omega), vp_in_nI (by omega) (by omega), br_c (fun z => nm_r (nI_1 j) (ih (j + 1) f (by omega) (by omega) ?_)) (fun z => h0 ?_)⟩
    · intro i hi
      by_cases ei : i = j
      · rw [ei]; exact z
      · exact hg i (by omega)
    · exact fun s => z (s.2 j (by omega))
theorem lm_ySame {a b : Nat} (ha : a < 64) (hb : b < 64) (h7 : ∀ s, s < 64 → K s ≤ 7) (hV : ∀ s, s < 64 → lm_Vw vw o s (K s) (G s)) (post : Int32 → Prop) (h1 : lm_sv K G a b → post 1) (h0 : ¬ lm_sv K G a b → post 0) :
    wpY_same post (n2, p, c, l, r, va, o, vw) (nI a) (nI b) := by
  have x7 := h7 a ha
  have y7 := h7 b hb
  unfold wpY_same
  refine ⟨lm_v64 ha, lm_v64 hb, ?_⟩
  rw [lm_cl (q := a) (by omega), lm_cl (q := b) (by omega), (hV a ha).1, (hV b hb).1]
  refine pk_eq (K a) (K b) (fun z => ⟨K a + 1, ?_⟩) (fun z => h0 (fun s => z s.1))
  exact lm_ySameL ha hb x7 z (hV a ha) (hV b hb) post h1 h0 (K a) 0 (K a + 1) (by omega) (by omega) (fun i hi => absurd hi (Nat.not_lt_zero i))
theorem lm_yLeast {q x : Nat} {y : Int32} (hq : q < 64) (hy : y &&& 63 = nI q) (hL : lm_Ls K G q x) (h7 : ∀ s, s < 64 → K s ≤ 7) (hV : ∀ s, s < 64 → lm_Vw vw o s (K s) (G s)) (post : Int32 → SY → Prop) (h : post (nI x) (n2, p, c, l, r, va, o, vw)) :
    ∀ d j f : Nat, j + d = x → d < f → wY_least_6 post y n2 p c l r va o vw f (nI j) := by
  have hx := hL.1
  intro d
  induction d with
  | zero =>
    intro j f hj hf
    obtain ⟨f, rfl⟩ := lm_f1 hf
    have ej : j = x := by omega
    subst ej
    refine pk_le 64 j (fun z => by omega) (fun _ => ?_)
    rw [hy]
    exact lm_ySame (K := K) (G := G) (by omega) hq h7 hV _ (fun _ => br_f (by decide) h) (fun z => absurd hL.2.1 z)
  | succ d ih =>
    intro j f hj hf
    obtain ⟨f, rfl⟩ := lm_f1 hf
    refine pk_le 64 j (fun z => by omega) (fun _ => ?_)
    rw [hy]
    exact lm_ySame (K := K) (G := G) (by omega) hq h7 hV _ (fun z => absurd z (hL.2.2 j (by omega))) (fun _ => br_t rfl (nm_r (nI_1 j) (ih (j + 1) f (by omega) (by omega))))
theorem lm_alike {q x : Nat} {y : Int32} (hq : q < 64) (hy : y &&& 63 = nI q) (hx : lm_Ls K G q x) (hL : ∀ s, s < 64 → ∃ x : Nat, la s = nI x ∧ lm_Ls K G s x) (h7 : ∀ s, s < 64 → K s ≤ 7) :
    ∀ (d j : Nat) (m : Int32), j + d = 64 → ∃ z : Int32, (∀ post : Int32 → Prop, post z → wX_alike_15 post (nI x) f1 f2 c l r t w ev vv vl la (d + 1) m (nI j)) ∧ (∀ (n2 p : Int32) (c2 l2 r2 va o vw : Nat → Int32), (∀ s, s < 64 → lm_Vw vw o s (K s) (G s)) → ∀ post : Int32 → SY → Prop, post z (n2, p, c2, l2, r2, va, o, vw) → wY_alike_8 post y n2 p c2 l2 r2 va o vw (d + 1) m (nI j)) := by
  intro d
  induction d with
  | zero =>
    intro j m hj
    exact ⟨m, fun post hp => pk_le 64 j (fun _ => hp) (fun z => by omega), fun n2 p c2 l2 r2 va o vw hV post hp => pk_le 64 j (fun _ => hp) (fun z => by omega)⟩
  | succ d ih =>
    intro j m hj
    have hj64 : j < 64 := by omega
    obtain ⟨xj, ej, hxj⟩ := hL j hj64
    have cj : (nI j).toNatClampNeg = j := lm_cl (by omega)
    have i := lm_LsI hxj hx
    by_cases hs : lm_sv K G j q
    · obtain ⟨z, hX, hY⟩ := ih (j + 1) (m + 1) (by omega)
      refine ⟨z, fun post hp => pk_le 64 j (fun z => by omega) (fun _ => ⟨lm_v64 hj64, ?_⟩), fun n2 p c2 l2 r2 va o vw hV post hp => pk_le 64 j (fun z => by omega) (fun _ => ?_)⟩
      · rw [cj, ej]
        exact br_t (by rw [i.mpr hs]) (nm_e (nm_r (nI_1 j) (hX post hp)))
      · rw [hy]
        exact lm_ySame (K := K) (G := G) hj64 hq h7 hV _ (fun _ => br_f (by decide) (nm_e (nm_r (nI_1 j) (hY n2 p c2 l2 r2 va o vw hV post hp)))) (fun g => absurd hs g)
    · obtain ⟨z, hX, hY⟩ := ih (j + 1) m (by omega)
      refine ⟨z, fun post hp => pk_le 64 j (fun z => by omega) (fun _ => ⟨lm_v64 hj64, ?_⟩), fun n2 p c2 l2 r2 va o vw hV post hp => pk_le 64 j (fun z => by omega) (fun _ => ?_)⟩
      · rw [cj, ej]
        have l1 := hxj.1
        have l2 := hx.1
        exact br_f (fun g => hs (i.mp ((nI_eq (by omega) (by omega)).mp g))) (nm_r (nI_1 j) (hX post hp))
      · rw [hy]
        exact lm_ySame (K := K) (G := G) hj64 hq h7 hV _ (fun g => absurd g hs) (fun _ => br_t rfl (nm_r (nI_1 j) (hY n2 p c2 l2 r2 va o vw hV post hp)))
/-- s is the first of its view from a on -/
def lm_Fi (K : Nat → Nat) (G : Nat → Nat → Int32) (a s : Nat) : Prop := ∀ u, a ≤ u → u < s → ¬ lm_sv K G u s
theorem lm_xIsF {a s : Nat} (hs : s < 64) (hL : ∀ s, s < 64 → ∃ x : Nat, la s = nI x ∧ lm_Ls K G s x) (post : Int32 → Prop) (h1 : lm_Fi K G a s → post 1) (h0 : ¬ lm_Fi K G a s → post 0) :
    ∀ d j f : Nat, j + d = s → d < f → a ≤ j → (∀ u, a ≤ u → u < j → ¬ lm_sv K G u s) → wX_isFirstOfItsView_2 post (nI s) f1 f2 c l r t w ev vv vl la f (nI j) := by
  obtain ⟨xs, es, hxs⟩ := hL s hs
  have l1 := hxs.1
  have cs : (nI s).toNatClampNeg = s := lm_cl (by omega)
  intro d
  induction d with
  | zero =>
    intro j f hj hf ha hu
    obtain ⟨f, rfl⟩ := lm_f1 hf
    exact pk_le s j (fun _ => h1 (fun u a1 a2 => hu u a1 (by omega))) (fun z => by omega)
  | succ d ih =>
    intro j f hj hf ha hu
    obtain ⟨f, rfl⟩ := lm_f1 hf
    obtain ⟨xj, ej, hxj⟩ := hL j (by omega)
    have l2 := hxj.1
    have i := lm_LsI hxj hxs
    have cj : (nI j).toNatClampNeg = j := lm_cl (by omega)
    refine pk_le s j (fun z => by omega) (fun _ => ⟨lm_v64 (by omega), lm_v64 hs, ?_⟩)
    rw [cj, cs, ej, es]
    refine pk_eq xj xs (fun z => h0 (fun g => g j ha (by omega) (i.mp z))) (fun z => nm_r (nI_1 j) (ih (j + 1) f (by omega) (by omega) (by omega) ?_))
    intro u a1 a2
    by_cases e : u = j
    · rw [e]; exact fun g => z (i.mpr g)
    · exact hu u a1 (by omega)
theorem lm_yIn {a s : Nat} {y1 y2 m : Int32} (hs : s < 64) (h7 : ∀ s, s < 64 → K s ≤ 7) (hV : ∀ s, s < 64 → lm_Vw vw o s (K s) (G s)) (post : Int32 → Prop) (J : Int32 → Int32 → Prop) (h1 : lm_Fi K G a s → J (m + 1) (nI (s + 1))) (h0 : ¬ lm_Fi K G a s → J m (nI (s + 1))) :
    ∀ (d j f : Nat) (y : Int32), j + d = s → d < f → a ≤ j → ((y = 1 ∧ ∀ u, a ≤ u → u < j → ¬ lm_sv K G u s) ∨ (y = 0 ∧ ¬ lm_Fi K G a s)) → wY_different_17 post J y1 y2 m (nI s) n2 p c l r va o vw f y (nI j) := by
  intro d
  induction d with
  | zero =>
    intro j f y hj hf ha hu
    obtain ⟨f, rfl⟩ := lm_f1 hf
    refine pk_le s j (fun _ => ?_) (fun z => by omega)
    rcases hu with ⟨ey, hu⟩ | ⟨ey, hu⟩
    · subst ey
      exact br_f (by decide) (nm_e (nm_r (nI_1 s) (h1 (fun u a1 a2 => hu u a1 (by omega)))))
    · subst ey
      exact br_t rfl (nm_r (nI_1 s) (h0 hu))
  | succ d ih =>
    intro j f y hj hf ha hu
    obtain ⟨f, rfl⟩ := lm_f1 hf
    refine pk_le s j (fun z => by omega) (fun _ => lm_ySame (K := K) (G := G) hs (by omega) h7 hV _ (fun z => ?_) (fun z => ?_))
    · exact br_f (by decide) (nm_r (nI_1 j) (ih (j + 1) f 0 (by omega) (by omega) (by omega) (Or.inr ⟨rfl, fun g => g j ha (by omega) (lm_svS z)⟩)))
    · refine br_t rfl (nm_r (nI_1 j) (ih (j + 1) f y (by omega) (by omega) (by omega) ?_))
      rcases hu with ⟨ey, hu⟩ | hu
      · refine Or.inl ⟨ey, fun u a1 a2 => ?_⟩
        by_cases e : u = j
        · rw [e]; exact fun g => z (lm_svS g)
        · exact hu u a1 (by omega)
      · exact Or.inr hu
theorem lm_diffL {a b : Nat} (hb : b < 64) (hL : ∀ s, s < 64 → ∃ x : Nat, la s = nI x ∧ lm_Ls K G s x) (h7 : ∀ s, s < 64 → K s ≤ 7) :
    ∀ (d s : Nat) (m : Int32), a ≤ s → s + d = b + 1 → ∃ z : Int32, (∀ post : Int32 → Prop, post z → wX_differentViews_5 post (nI a) (nI b) f1 f2 c l r t w ev vv vl la (d + 1) m (nI s)) ∧ (∀ (n2 p : Int32) (c2 l2 r2 va o vw : Nat → Int32), (∀ s, s < 64 → lm_Vw vw o s (K s) (G s)) → ∀ post : Int32 → Prop, post z → wY_different_5 post (nI a) (nI b) n2 p c2 l2 r2 va o vw (d + 1) m (nI s)) := by
  intro d
  induction d with
  | zero =>
    intro s m ha hs
    exact ⟨m, fun post hp => pk_lt b s (fun _ => hp) (fun z => by omega), fun n2 p c2 l2 r2 va o vw hV post hp => pk_lt b s (fun _ => hp) (fun z => by omega)⟩
  | succ d ih =>
    intro s m ha hs
    have hs64 : s < 64 := by omega
    have key : ∀ m' : Int32, (lm_Fi K G a s → m' = m + 1) → (¬ lm_Fi K G a s → m' = m) → ∃ z : Int32, (∀ post : Int32 → Prop, post z → wX_differentViews_5 post (nI a) (nI b) f1 f2 c l r t w ev vv vl la (d + 1 + 1) m (nI s)) ∧ (∀ (n2 p : Int32) (c2 l2 r2 va o vw : Nat → Int32), (∀ s, s < 64 → lm_Vw vw o s (K s) (G s)) → ∀ post : Int32 → Prop, post z → wY_different_5 post (nI a) (nI b) n2 p c2 l2 r2 va o vw (d + 1 + 1) m (nI s)) := by
      intro m' e1 e0
      obtain ⟨z, hX, hY⟩ := ih (s + 1) m' (by omega) (by omega)
      refine ⟨z, fun post hp => pk_lt b s (fun z => by omega) (fun _ => ?_), fun n2 p c2 l2 r2 va o vw hV post hp => pk_lt b s (fun z => by omega) (fun _ => ?_)⟩
      · unfold wpX_isFirstOfItsView
        refine ⟨s + 1, lm_xIsF (K := K) (G := G) (a := a) hs64 hL _ (fun g => ?_) (fun g => ?_) (s - a) a (s + 1) (by omega) (by omega) (Nat.le_refl a) (fun u a1 a2 => by omega)⟩
        · exact br_f (by decide) (nm_r (e1 g).symm (nm_r (nI_1 s) (hX post hp)))
        · have H := hX post hp
          rw [e0 g] at H
          exact br_t rfl (nm_r (nI_1 s) H)
      · refine ⟨s + 1, lm_yIn (K := K) (G := G) (a := a) hs64 h7 hV post _ (fun g => ?_) (fun g => ?_) (s - a) a (s + 1) 1 (by omega) (by omega) (Nat.le_refl a) (Or.inl ⟨rfl, fun u a1 a2 => by omega⟩)⟩
        · have H := hY n2 p c2 l2 r2 va o vw hV post hp
          rw [e1 g] at H
          exact H
        · have H := hY n2 p c2 l2 r2 va o vw hV post hp
          rw [e0 g] at H
          exact H
    by_cases hF : lm_Fi K G a s
    · exact key (m + 1) (fun _ => rfl) (fun g => absurd hF g)
    · exact key m (fun g => absurd g hF) (fun _ => rfl)
theorem lm_diff {a b : Nat} (hab : a ≤ b) (hb : b < 64) (hL : ∀ s, s < 64 → ∃ x : Nat, la s = nI x ∧ lm_Ls K G s x) (h7 : ∀ s, s < 64 → K s ≤ 7) :
    ∃ z : Int32, (∀ post : Int32 → Prop, post z → wpX_differentViews post (f1, f2, c, l, r, t, w, ev, vv, vl, la) (nI a) (nI b)) ∧ (∀ (n2 p : Int32) (c2 l2 r2 va o vw : Nat → Int32), (∀ s, s < 64 → lm_Vw vw o s (K s) (G s)) → ∀ post : Int32 → Prop, post z → wpY_different post (n2, p, c2, l2, r2, va, o, vw) (nI a) (nI b)) := by
  obtain ⟨z, hX, hY⟩ := lm_diffL (f1 := f1) (f2 := f2) (c := c) (l := l) (r := r) (t := t) (w := w) (ev := ev) (vv := vv) (vl := vl) (a := a) hb hL h7 (b + 1 - a) a 0 (Nat.le_refl a) (by omega)
  refine ⟨z, fun post hp => ?_, fun n2 p c2 l2 r2 va o vw hV post hp => ?_⟩
  · unfold wpX_differentViews
    exact ⟨_, hX post hp⟩
  · unfold wpY_different
    exact ⟨_, hY n2 p c2 l2 r2 va o vw hV post hp⟩
end
