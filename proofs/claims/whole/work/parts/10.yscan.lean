/-! the reference's scans: the count of parts not closed, whether the inmost has its ELSE, where a jump leads -/
theorem lm_v40 {q : Nat} (h : q < 40) : vp_in (nI q) 40 := vp_in_nI h (by omega)
theorem lm_f1 {f d : Nat} (h : d < f) : ∃ f' : Nat, f = f' + 1 := ⟨f - 1, by omega⟩
section
variable {p : Int32} {c l r va o vw : Nat → Int32} {n : Nat}
theorem lm_yOpenL (h40 : n ≤ 40) (post : Int32 → Prop) (h : post (lm_cn c n)) :
    ∀ d m f : Nat, m + d = n → d < f → wY_open_4 post (nI n) p c l r va o vw f (lm_cn c m) (nI m) := by
  intro d
  induction d with
  | zero =>
    intro m f hm hf
    obtain ⟨f, rfl⟩ := lm_f1 hf
    have em : m = n := by omega
    rw [em]
    exact pk_le n n (fun _ => h) (fun z => absurd z (Nat.lt_irrefl n))
  | succ d ih =>
    intro m f hm hf
    obtain ⟨f, rfl⟩ := lm_f1 hf
    have cm : (nI m).toNatClampNeg = m := lm_cl (by omega)
    have H := ih (m + 1) f (by omega) (by omega)
    refine pk_le n m (fun z => by omega) (fun _ => ⟨lm_v40 (by omega), ?_⟩)
    unfold wY_open_26
    rw [cm]
    by_cases h13 : c m = 13
    · have e : lm_cn c (m + 1) = lm_cn c m + 1 := if_pos h13
      rw [e] at H
      exact br_t h13 (nm_e ⟨lm_v40 (by omega), br_f (by rw [h13]; exact lm_d1) (nm_r (nI_1 m) H)⟩)
    · refine br_f h13 ⟨lm_v40 (by omega), ?_⟩
      by_cases h15 : c m = 15
      · have e : lm_cn c (m + 1) = lm_cn c m + (-1) := (if_neg h13).trans (if_pos h15)
        rw [e] at H
        exact br_t h15 (nm_e (nm_r (nI_1 m) H))
      · have e : lm_cn c (m + 1) = lm_cn c m := (if_neg h13).trans (if_neg h15)
        rw [e] at H
        exact br_f h15 (nm_r (nI_1 m) H)
theorem lm_yOpen (h40 : n ≤ 40) (post : Int32 → Prop) (h : post (lm_cn c n)) : wpY_open post (nI n, p, c, l, r, va, o, vw) := by
  unfold wpY_open
  exact ⟨n + 1, lm_yOpenL h40 post h n 0 (n + 1) (by omega) (by omega)⟩
theorem lm_y61 {post : Int32 → Prop} {J : Int32 → Int32 → Prop} {x : Int32} {q : Nat} (hq : q + 1 < 40) (h1 : c (q + 1) = 13 → J (x + (-1)) (nI q)) (h2 : c (q + 1) ≠ 13 → J x (nI q)) : wY_hasElse_61 post J x (nI (q + 1)) (nI n) p c l r va o vw := by
  unfold wY_hasElse_61
  rw [lm_cl (q := q + 1) (by omega)]
  exact ⟨lm_v40 hq, br_c (fun z => nm_e (nm_r (pk_m1 q) (h1 z))) (fun z => nm_r (pk_m1 q) (h2 z))⟩
theorem lm_y47 {post : Int32 → Prop} {J : Int32 → Int32 → Prop} {x : Int32} {q : Nat} (hq : q + 1 < 40) (h1 : c (q + 1) = 13 → J (x + (-1)) (nI q)) (h2 : c (q + 1) = 15 → J (x + 1) (nI q)) (h3 : c (q + 1) ≠ 13 → c (q + 1) ≠ 15 → J x (nI q)) : wY_hasElse_47 post J x (nI (q + 1)) (nI n) p c l r va o vw := by
  unfold wY_hasElse_47
  refine ⟨lm_v40 hq, ?_⟩
  have cq : (nI (q + 1)).toNatClampNeg = q + 1 := lm_cl (by omega)
  refine br_c (fun z => nm_e (lm_y61 hq (fun y => ?_) (fun _ => ?_))) (fun z => lm_y61 hq h1 (fun y => h3 y ?_))
  · rw [cq] at z
    rw [y] at z
    exact absurd z lm_d1
  · rw [cq] at z
    exact h2 z
  · rw [cq] at z
    exact z
theorem lm_y30 {post : Int32 → Prop} {J : Int32 → Int32 → Prop} {d q : Nat} (hd : d < 1000) (hq : q + 1 < 40) (h0 : d = 0 → c (q + 1) ≠ 13) (h1 : c (q + 1) = 13 → J (nI d + (-1)) (nI q)) (h2 : c (q + 1) = 15 → J (nI d + 1) (nI q)) (h3 : c (q + 1) ≠ 13 → c (q + 1) ≠ 15 → J (nI d) (nI q)) : wY_hasElse_30 post J (nI d) (nI (q + 1)) (nI n) p c l r va o vw := by
  unfold wY_hasElse_30
  have cq : (nI (q + 1)).toNatClampNeg = q + 1 := lm_cl (by omega)
  refine pk_eq d 0 (fun z => ⟨lm_v40 hq, br_f ?_ (lm_y47 hq h1 h2 h3)⟩) (fun _ => lm_y47 hq h1 h2 h3)
  rw [cq]
  exact h0 z
theorem lm_yElseL {i : Nat} (h40 : n ≤ 40) (hS : lm_S c i n = (0, 0)) (post : Int32 → Prop) (h13 : c i = 13 → post 0) (h14 : c i = 14 → post 1) (hc : c i = 13 ∨ c i = 14) :
    ∀ d q f : Nat, q = i + d → q < n → d < f → wY_hasElse_9 post (nI n) p c l r va o vw f (nI (lm_D c i (q + 1))) (nI q) := by
  intro d
  induction d with
  | zero =>
    intro q f e hq hf
    obtain ⟨f, rfl⟩ := lm_f1 hf
    have eq : q = i := e
    subst eq
    have cq : (nI q).toNatClampNeg = q := lm_cl (by omega)
    rw [lm_D0]
    refine br_f (nI_pos (by omega)) (br_t rfl ⟨lm_v40 (by omega), ?_⟩)
    rw [cq]
    refine br_c h14 (fun z => ?_)
    have z13 : c q = 13 := by
      rcases hc with y | y
      · exact y
      · exact absurd y z
    unfold wY_hasElse_30
    refine br_t rfl ⟨lm_v40 (by omega), ?_⟩
    rw [cq]
    exact br_t z13 (h13 z13)
  | succ d ih =>
    intro q f e hq hf
    obtain ⟨f, rfl⟩ := lm_f1 hf
    obtain ⟨q, rfl⟩ : ∃ q', q = q' + 1 := ⟨q - 1, by omega⟩
    have H := ih q f (by omega) (by omega) (by omega)
    have cq : (nI (q + 1)).toNatClampNeg = q + 1 := lm_cl (by omega)
    have hi : i < q + 1 := by omega
    have dl : lm_D c i (q + 1 + 1) < 1000 := by
      have := lm_Dle (c := c) (p := i) (m := q + 1 + 1)
      omega
    have k1 : c (q + 1) = 13 → nI (lm_D c i (q + 1 + 1)) + (-1) = nI (lm_D c i (q + 1)) := fun z => by rw [lm_D13 hS hi hq z]; exact pk_m1 _
    have k2 : c (q + 1) = 15 → nI (lm_D c i (q + 1 + 1)) + 1 = nI (lm_D c i (q + 1)) := fun z => by rw [lm_D15 hS hi hq z]; exact nI_1 _
    have k3 : c (q + 1) ≠ 13 → c (q + 1) ≠ 15 → lm_D c i (q + 1 + 1) = lm_D c i (q + 1) := fun z y => by
      by_cases x : c (q + 1) = 14
      · exact (lm_D14 hS hi hq x).1
      · exact lm_DO hS hi hq z x y
    have H30 : wY_hasElse_30 post (wY_hasElse_9 post (nI n) p c l r va o vw f) (nI (lm_D c i (q + 1 + 1))) (nI (q + 1)) (nI n) p c l r va o vw := by
      refine lm_y30 dl (by omega) (fun z y => ?_) (fun z => ?_) (fun z => ?_) (fun z y => ?_)
      · have := lm_D13 hS hi hq y
        omega
      · rw [k1 z]; exact H
      · rw [k2 z]; exact H
      · rw [k3 z y]; exact H
    refine br_f (nI_pos (by omega)) (pk_eq (lm_D c i (q + 1 + 1)) 0 (fun z => ⟨lm_v40 (by omega), ?_⟩) (fun _ => H30))
    rw [cq]
    refine br_c (fun y => h14 ?_) (fun _ => H30)
    rcases hc with x | x
    · have w := lm_D14 hS hi hq y
      have w2 := w.2 x
      omega
    · exact x
theorem lm_yElse {i : Nat} (h40 : n ≤ 40) (hi : i < n) (hS : lm_S c i n = (0, 0)) (post : Int32 → Prop) (h13 : c i = 13 → post 0) (h14 : c i = 14 → post 1) (hc : c i = 13 ∨ c i = 14) : wpY_hasElse post (nI n, p, c, l, r, va, o, vw) := by
  unfold wpY_hasElse
  obtain ⟨m, rfl⟩ : ∃ m, n = m + 1 := ⟨n - 1, by omega⟩
  refine nm_r (nI_pred m) ⟨m + 1, ?_⟩
  have H := lm_yElseL (p := p) (l := l) (r := r) (va := va) (o := o) (vw := vw) h40 hS post h13 h14 hc (m - i) m (m + 1) (by omega) (by omega) (by omega)
  have e : lm_D c i (m + 1) = 0 := congrArg Prod.snd hS
  rw [e] at H
  exact H
theorem lm_skP {c : Nat → Int32} {b : Bool} {p m : Nat} (hp : p < m) (h : (lm_sk c b p m).1 ≠ 0) : ∀ d : Nat, lm_sk c b p (m + d) = lm_sk c b p m
  | 0 => rfl
  | d + 1 => by
    have e := lm_skP hp h d
    have s : lm_sk c b p (m + d + 1) = lm_step c b (m + d) (lm_sk c b p (m + d)) := lm_skS (by omega)
    rw [show m + (d + 1) = m + d + 1 from rfl, s, e]
    exact if_pos h
theorem lm_Bf {c : Nat → Int32} {n i m f : Nat} (hi : i < m) (hm : m ≤ n) (h : lm_S c i m = (f, 0)) (hf : f ≠ 0) : lm_B c n i = f := by
  have e : lm_S c i n = (f, 0) := by
    have a := lm_skP (c := c) (b := lm_o c i) hi (by show (lm_S c i m).1 ≠ 0; rw [h]; exact hf) (n - m)
    have b : m + (n - m) = n := by omega
    rw [b] at a
    exact a.trans h
  unfold lm_B
  rw [e]
  exact if_neg hf
theorem lm_y68 {post : Int32 → Prop} {J : Int32 → Int32 → Prop} {y x : Int32} {q : Nat} (hq : q < 40) (h1 : c q = 15 → J (x + (-1)) (nI (q + 1))) (h2 : c q ≠ 15 → J x (nI (q + 1))) : wY_behind_68 post J y x (nI q) (nI n) p c l r va o vw := by
  unfold wY_behind_68
  rw [lm_cl (q := q) (by omega)]
  exact ⟨lm_v40 hq, br_c (fun z => nm_e (nm_r (nI_1 q) (h1 z))) (fun z => nm_r (nI_1 q) (h2 z))⟩
theorem lm_y53 {post : Int32 → Prop} {J : Int32 → Int32 → Prop} {y x : Int32} {q : Nat} (hq : q < 40) (h1 : c q = 13 → J (x + 1) (nI (q + 1))) (h2 : c q = 15 → J (x + (-1)) (nI (q + 1))) (h3 : c q ≠ 13 → c q ≠ 15 → J x (nI (q + 1))) : wY_behind_53 post J y x (nI q) (nI n) p c l r va o vw := by
  unfold wY_behind_53
  have cq : (nI q).toNatClampNeg = q := lm_cl (by omega)
  rw [cq]
  refine ⟨lm_v40 hq, br_c (fun z => nm_e (lm_y68 hq (fun w => ?_) (fun _ => h1 z))) (fun z => lm_y68 hq h2 (fun w => h3 z w))⟩
  rw [z] at w
  exact absurd w lm_d1
theorem lm_yBehL {i : Nat} {y : Int32} (h40 : n ≤ 40) (hy : (c i = 13 ∧ y = 1) ∨ (c i ≠ 13 ∧ y = 0)) (post : Int32 → Prop) (h : post (nI (lm_B c n i))) :
    ∀ e q f d : Nat, q + e = n → i < q → e < f → lm_S c i q = (0, d) → wY_behind_7 post y (nI n) p c l r va o vw f (nI d) (nI q) := by
  intro e
  induction e with
  | zero =>
    intro q f d hq hi hf hS
    obtain ⟨f, rfl⟩ := lm_f1 hf
    have eq : q = n := by omega
    subst eq
    have eB : lm_B c q i = q := by unfold lm_B; rw [hS]; exact if_pos rfl
    rw [eB] at h
    exact pk_le q q (fun _ => h) (fun z => absurd z (Nat.lt_irrefl q))
  | succ e ih =>
    intro q f d hq hi hf hS
    obtain ⟨f, rfl⟩ := lm_f1 hf
    have hq40 : q < 40 := by omega
    have hd : d ≤ q := by
      have z := lm_Dle (c := c) (p := i) (m := q)
      unfold lm_D at z
      rw [hS] at z
      exact z
    have cq : (nI q).toNatClampNeg = q := lm_cl (by omega)
    have S1 := lm_SS (c := c) hi
    rw [hS] at S1
    have H : ∀ d' : Nat, lm_S c i (q + 1) = (0, d') → wY_behind_7 post y (nI n) p c l r va o vw f (nI d') (nI (q + 1)) := fun d' h' => ih (q + 1) f d' (by omega) (by omega) (by omega) h'
    have HB : lm_S c i (q + 1) = (q + 1, 0) → post (nI q + 1) := fun z => by
      have eB := lm_Bf (n := n) (by omega) (by omega) z (Nat.succ_ne_zero q)
      rw [eB] at h
      rw [nI_1]
      exact h
    have H53 : (d = 0 → c q ≠ 15) → (d = 0 → c i = 13 → c q ≠ 14) → wY_behind_53 post (wY_behind_7 post y (nI n) p c l r va o vw f) y (nI d) (nI q) (nI n) p c l r va o vw := by
      intro a b
      refine lm_y53 hq40 (fun z => ?_) (fun z => ?_) (fun z z2 => ?_)
      · rw [nI_1]
        rw [lm_stI z] at S1
        exact H _ S1
      · obtain ⟨d2, rfl⟩ : ∃ d2, d = d2 + 1 := ⟨d - 1, by have : d ≠ 0 := fun x => a x z; omega⟩
        rw [pk_m1]
        rw [lm_stD z] at S1
        exact H _ S1
      · by_cases z3 : c q = 14
        · by_cases ei : c i = 13
          · rw [lm_stEn z3 (Or.inl (fun x => b x ei z3))] at S1
            exact H _ S1
          · have eo : lm_o c i = false := by unfold lm_o; exact decide_eq_false ei
            rw [lm_stEn z3 (Or.inr eo)] at S1
            exact H _ S1
        · rw [lm_stO z z3 z2] at S1
          exact H _ S1
    refine pk_le n q (fun z => by omega) (fun _ => pk_eq d 0 (fun z => ⟨lm_v40 hq40, ?_⟩) (fun z => H53 (fun x => absurd x z) (fun x => absurd x z)))
    subst z
    rw [cq]
    refine br_c (fun z15 => HB ?_) (fun n15 => ?_)
    · rw [S1]; exact lm_stD0 z15
    · rcases hy with ⟨c13, ey⟩ | ⟨nc13, ey⟩
      · subst ey
        refine br_f (by decide) ⟨lm_v40 hq40, br_c (fun z14 => HB ?_) (fun n14 => H53 (fun _ => n15) (fun _ _ => n14))⟩
        have eo : lm_o c i = true := by unfold lm_o; exact decide_eq_true c13
        rw [S1, eo]
        exact lm_stE0 z14
      · subst ey
        exact br_t rfl (H53 (fun _ => n15) (fun _ x => absurd x nc13))
theorem lm_yBeh {i : Nat} {y : Int32} (h40 : n ≤ 40) (hi : i < n) (hy : (c i = 13 ∧ y = 1) ∨ (c i ≠ 13 ∧ y = 0)) (post : Int32 → Prop) (h : post (nI (lm_B c n i))) : wpY_behind post (nI n, p, c, l, r, va, o, vw) (nI i) y := by
  unfold wpY_behind
  exact nm_r (nI_1 i) ⟨n + 1, lm_yBehL h40 hy post h (n - (i + 1)) (i + 1) (n + 1) 0 (by omega) (by omega) (by omega) lm_SN⟩
end
