/-! ===== Y's private methods ===== -/
theorem yc_bit {V x : Int32} {post : Int32 → Prop} (v : SY) (hx : eh_P V x) (h : post (eh_bo x)) : wpY_bit post v (x + 1) := by
  obtain ⟨v1, v2, v3, v4, v5, v6, v7, v8⟩ := v
  unfold wpY_bit
  dsimp only
  rcases hx with hx | ⟨j, hj, _, hx⟩
  · subst hx
    rw [eh_bo_m] at h
    exact br_t (by decide) h
  · subst hx
    rw [eh_bo_n (by omega)] at h
    rw [nI_1, nI_pred]
    exact br_f (nI_nle (by omega) (by omega)) h
theorem yc_bit0 {post : Int32 → Prop} (v : SY) (h : post 0) : wpY_bit post v 0 := by
  obtain ⟨v1, v2, v3, v4, v5, v6, v7, v8⟩ := v
  unfold wpY_bit
  dsimp only
  exact br_t (by decide) h
theorem yc_bitg {post : Int32 → Prop} (v : SY) (x : Int32) (h : ∀ r, post r) : wpY_bit post v x := by
  obtain ⟨v1, v2, v3, v4, v5, v6, v7, v8⟩ := v
  unfold wpY_bit
  dsimp only
  exact br_c (fun _ => h _) (fun _ => h _)
/-- Y's arrays beside X's, the fields of em emptied -/
def eh_F (V em : Int32) (K A B Ky as bs : Nat → Int32) : Prop :=
  ∀ o, bt V o = true → Ky o = K o ∧ (nI o ≠ em → as o = A o + 1 ∧ bs o = B o + 1) ∧ (nI o = em → as o = 0 ∧ bs o = 0)
theorem yc_pass {m : Nat} {V W S em x2 : Int32} {K A B R Q he Ky ey as bs Ry : Nat → Int32} {post : Int32 → Prop} {J : Int32 → Int32 → Prop} (hX : eh_X m V W K A B R Q) (hF : eh_F V em K A B Ky as bs) (hS : eh_sub S V)
    (h : ∀ L, eh_G K A B em S 20 L → ∀ y, y = x2 + 1 → J L y) : ∃ n65 : Nat, wY_living_65 post J x2 (nI m) he Ky ey as bs Ry Q n65 S 0 := by
  refine loop_0 (fun n i s => wY_living_65 post J x2 (nI m) he Ky ey as bs Ry Q n s (nI i)) (fun i s => eh_G K A B em S i s) 20 S (eh_G0 K A B em S) (fun n s hs => ?_) (fun n i s hi hs hk => ?_)
  · exact br_t (show (20 : Int32) ≤ nI 20 by decide) (h s hs)
  · have hv : vp_in (nI i) 20 := vp_in_nI hi (by decide)
    refine br_f (nI_ge (b := 20) hi (by decide)) ?_
    by_cases g : bt s i = true
    · refine br_t ((eh_t1 s (by omega)).mpr g) ⟨hv, ?_⟩
      have gV : bt V i = true := hs.2.1 V (eh_XC hX em) hS i g
      obtain ⟨k1, k2, k3⟩ := hX.2.2.1 i gV
      obtain ⟨f1, f2, f3⟩ := hF i gV
      rw [nI_clamp (show i < 2 ^ 31 by omega), f1]
      by_cases e : nI i = em
      · rw [(f3 e).1, (f3 e).2]
        have fin : ∀ y : Int32, y = s → ∀ z : Int32, z = nI i + 1 → wY_living_65 post J x2 (nI m) he Ky ey as bs Ry Q n y z := by
          intro y ey z ez
          subst ey ez
          rw [nI_1]
          exact hk _ (eh_Gskip hs (Or.inl e))
        have z0 : s ||| 0 = s := eh_or0 s
        have z1 : s ||| (0 ||| 0) = s := by rw [eh_or0 0, eh_or0 s]
        refine yc_bit0 _ ⟨hv, yc_bit0 _ ⟨hv, br_c (fun _ => ?_) (fun _ => ⟨hv, br_c (fun _ => ?_) (fun _ => br_c (fun _ => ?_) (fun _ => ?_))⟩)⟩⟩
        · intro a ea y ey z ez
          exact fin y (by rw [ey, ea]; exact z1) z ez
        · intro y ey z ez
          exact fin y (ey.trans z0) z ez
        · intro y ey z ez
          exact fin y (ey.trans z0) z ez
        · intro y ey z ez
          exact fin y (ey.trans z0) z ez
      · rw [(f2 e).1, (f2 e).2]
        have fin : ∀ r : Int32, (∀ p, p < 32 → (bt r p = true ↔ eh_k K A B i s p)) → ∀ y : Int32, y = s ||| r → ∀ z : Int32, z = nI i + 1 → wY_living_65 post J x2 (nI m) he Ky ey as bs Ry Q n y z := by
          intro r hr y ey z ez
          subst ey ez
          rw [nI_1]
          exact hk _ (eh_Gadd2 hi hs hs.1 (eh_sub_r s) g e k2 k3 hr)
        refine yc_bit _ k2 ⟨hv, yc_bit _ k3 ⟨hv, ?_⟩⟩
        by_cases e0 : K i = 0
        · refine br_t e0 (fun a ea y ey z ez => ?_)
          subst ea
          refine fin _ (eh_kr0 k2 k3 e0 (fun p _ => ?_)) y ey z ez
          rw [b_or, Bool.or_eq_true]
        · refine br_f e0 ⟨hv, ?_⟩
          by_cases e1 : K i = 1
          · refine br_t e1 (fun y ey z ez => ?_)
            exact fin _ (eh_kr1 k3 e0 (fun z2 => absurd (e1.symm.trans z2) (by decide))) y ey z ez
          · have e2 : K i = 2 := (k1.resolve_left e0).resolve_left e1
            refine br_f e1 ?_
            by_cases q : eh_hb s (A i) = false
            · refine br_t ((eh_az k2).mpr q) (fun y ey z ez => ?_)
              exact fin _ (eh_kr2 e2 q) y ey z ez
            · refine br_f (fun z => q ((eh_az k2).mp z)) (fun y ey z ez => ?_)
              refine fin _ (eh_kr1 k3 e0 (fun _ => ?_)) y ey z ez
              cases hb : eh_hb s (A i)
              · exact absurd hb q
              · rfl
    · refine br_f (fun z => g ((eh_t1 s (by omega)).mp z)) (fun y ey => ?_)
      subst ey
      rw [nI_1]
      exact hk _ (eh_Gskip hs (Or.inr (fun z => g (hs.1 i z))))
theorem yc_live {m : Nat} {V W em : Int32} {K A B R Q he Ky ey as bs Ry : Nat → Int32} {post : Int32 → Prop} (hX : eh_X m V W K A B R Q) (hF : eh_F V em K A B Ky as bs) (hR : ∀ r, r < 4 → Ry r = R r + 1)
    (h : ∀ S, eh_A K A B R Q m em S → post S) : wpY_living post (nI m, he, Ky, ey, as, bs, Ry, Q) := by
  have hm := eh_X20 hX
  show ∃ n4 : Nat, wY_living_4 post (nI m) he Ky ey as bs Ry Q n4 0 0
  refine loop_0 (fun n i s => wY_living_4 post (nI m) he Ky ey as bs Ry Q n s (nI i)) (fun i s => eh_01 R i s) 4 0 (eh_01z R) (fun n s hs => ?_) (fun n i s hi hs hk => ?_)
  · refine br_t (show (4 : Int32) ≤ nI 4 by decide) ?_
    refine loop_0 (fun n i s => wY_living_30 post (nI m) he Ky ey as bs Ry Q n s (nI i)) (fun i s => eh_0 R Q i s) m s (eh_02z hs) (fun n s hs => ?_) (fun n i s hi hs hk => ?_)
    · refine br_t (nI_le (Nat.le_refl _) (by omega)) ?_
      refine loop_0 (fun n i s => wY_living_57 post (nI m) he Ky ey as bs Ry Q n s (nI i)) (fun i t => eh_I K A B em s i t) 20 s (eh_I0 K A B em s) (fun n t ht => ?_) (fun n i t hi ht hk => ?_)
      · exact br_t (show (20 : Int32) ≤ nI 20 by decide) (h t (eh_AI hs ht))
      · refine br_f (nI_ge (b := 20) hi (by decide)) (yc_pass hX hF (ht.2.1 V (eh_XC hX em) (eh_X0 hX hs)) (fun L hL y ey => ?_))
        subst ey
        rw [nI_1]
        exact hk _ (eh_I1 hX.1 (eh_XC hX em) (eh_X0 hX hs) ht hL)
    · refine br_f (nI_ge hi (by omega)) ⟨vp_in_nI (by omega) (by omega), ?_⟩
      obtain ⟨j, hj, _, ej⟩ := hX.2.2.2.2.1 i hi
      rw [nI_clamp (show i < 2 ^ 31 by omega)]
      intro y ey z ez
      have e2 : y = s ||| eh_bo (Q i) := by rw [ey, ej, eh_bo_n (by omega)]
      subst e2 ez
      rw [nI_1]
      exact hk _ (eh_02s hs (eh_Qp hX hi))
  · refine br_f (nI_ge (b := 4) hi (by decide)) ⟨vp_in_nI hi (by decide), ?_⟩
    rw [nI_clamp (show i < 2 ^ 31 by omega), hR i hi]
    refine yc_bit _ (hX.2.2.2.1 i hi) (fun y ey z ez => ?_)
    subst ey ez
    rw [nI_1]
    exact hk _ (eh_01s hs (hX.2.2.2.1 i hi))
/-! ===== is the object there ===== -/
def eh_th (V x : Int32) : Prop := ∃ o, o < 20 ∧ bt V o = true ∧ x = nI o
theorem xc_ist {n V W x : Int32} {K A B R Q : Nat → Int32} {post : Int32 → Prop} (hx : eh_th V x) (h : post 1) : wpX_isThere post (n, V, W, K, A, B, R, Q) x := by
  obtain ⟨o, ho, hb, rfl⟩ := hx
  unfold wpX_isThere
  dsimp only
  exact br_f (nI_ge (b := 20) ho (by decide)) (xc_cn (by omega) (fun _ => br_f (by decide) h) (fun z => absurd hb z))
theorem xc_isf {n V W x : Int32} {K A B R Q : Nat → Int32} {post : Int32 → Prop} (hx : ¬ eh_th V x) (h : post 0) : wpX_isThere post (n, V, W, K, A, B, R, Q) x := by
  unfold wpX_isThere
  dsimp only
  rcases pk_ix x (n := 20) (by decide) with h1 | h1 | ⟨j, hj, rfl⟩
  · refine br_f (fun z => ?_) (br_t h1 (br_t rfl h))
    have z2 := Int32.lt_of_lt_of_le h1 (by decide : (0 : Int32) ≤ 20)
    exact Int32.not_le.mpr z2 z
  · exact br_t h1 h
  · refine br_f (nI_ge (b := 20) hj (by decide)) (xc_cn (by omega) (fun z => absurd ⟨j, hj, z, rfl⟩ hx) (fun _ => br_t rfl h))
theorem xc_itt {n V W x : Int32} {K A B R Q : Nat → Int32} {post : Int32 → Prop} (hx : x = -1 ∨ eh_th V x) (h : post 1) : wpX_isThereOrNone post (n, V, W, K, A, B, R, Q) x := by
  unfold wpX_isThereOrNone
  dsimp only
  by_cases e : x = -1
  · exact br_t e h
  · exact br_f e (xc_ist (hx.resolve_left e) (br_f (by decide) h))
theorem xc_itf {n V W x : Int32} {K A B R Q : Nat → Int32} {post : Int32 → Prop} (hx : ¬ (x = -1 ∨ eh_th V x)) (h : post 0) : wpX_isThereOrNone post (n, V, W, K, A, B, R, Q) x := by
  unfold wpX_isThereOrNone
  dsimp only
  exact br_f (fun e => hx (Or.inl e)) (xc_isf (fun e => hx (Or.inr e)) (br_t rfl h))
theorem yc_ist {w V x : Int32} {he Ky ey as bs Ry Q : Nat → Int32} {post : Int32 → Prop} (hh : ∀ o, o < 20 → he o = if bt V o = true then 1 else 0) (hx : eh_th V x) (h : post 1) : wpY_is post (w, he, Ky, ey, as, bs, Ry, Q) x := by
  obtain ⟨o, ho, hb, rfl⟩ := hx
  unfold wpY_is
  dsimp only
  rw [nI_clamp (show o < 2 ^ 31 by omega), hh o ho, if_pos hb]
  exact br_f (nI_pos (by omega)) (br_f (nI_ge (b := 20) ho (by decide)) ⟨vp_in_nI ho (by decide), br_f (by decide) h⟩)
theorem yc_isf {w V x : Int32} {he Ky ey as bs Ry Q : Nat → Int32} {post : Int32 → Prop} (hh : ∀ o, o < 20 → he o = if bt V o = true then 1 else 0) (hx : ¬ eh_th V x) (h : post 0) : wpY_is post (w, he, Ky, ey, as, bs, Ry, Q) x := by
  unfold wpY_is
  dsimp only
  rcases pk_ix x (n := 20) (by decide) with h1 | h1 | ⟨j, hj, rfl⟩
  · exact br_t h1 h
  · refine br_f (fun z => ?_) (br_t h1 h)
    have z2 := Int32.lt_of_lt_of_le z (by decide : (0 : Int32) ≤ 20)
    exact Int32.not_le.mpr z2 h1
  · have g : ¬ bt V j = true := fun z => hx ⟨j, hj, z, rfl⟩
    rw [nI_clamp (show j < 2 ^ 31 by omega), hh j hj, if_neg g]
    exact br_f (nI_pos (by omega)) (br_f (nI_ge (b := 20) hj (by decide)) ⟨vp_in_nI hj (by decide), br_t rfl h⟩)
/-! ===== is it a root ===== -/
theorem eh_rx (x : Int32) : x < 0 ∨ (¬ x < 0 ∧ 4 ≤ x ∧ 3 < x ∧ ¬ x ≤ 3) ∨ ∃ j : Nat, j < 4 ∧ x = nI j := by
  rcases pk_ix x (n := 4) (by decide) with h1 | h1 | h1
  · exact Or.inl h1
  · have h3 : (3 : Int32) < x := Int32.lt_of_lt_of_le (by decide) (show (4 : Int32) ≤ x from h1)
    refine Or.inr (Or.inl ⟨fun z => ?_, h1, h3, Int32.not_le.mpr h3⟩)
    exact Int32.not_le.mpr (Int32.lt_of_lt_of_le z (by decide : (0 : Int32) ≤ 4)) h1
  · exact Or.inr (Or.inr h1)
theorem eh_r3 : ∀ j, j < 4 → (¬ nI j < 0) ∧ (¬ (4 : Int32) ≤ nI j) ∧ (¬ (3 : Int32) < nI j) ∧ nI j ≤ 3 := by decide +kernel
theorem eh_k3 : ∀ j, j < 3 → (¬ nI j < 0) ∧ (¬ (2 : Int32) < nI j) ∧ (nI j = 0 ∨ nI j = 1 ∨ nI j = 2) := by decide +kernel
theorem eh_kx (x : Int32) : x < 0 ∨ (¬ x < 0 ∧ 2 < x) ∨ ∃ j : Nat, j < 3 ∧ x = nI j := by
  rcases pk_ix x (n := 3) (by decide) with h1 | h1 | h1
  · exact Or.inl h1
  · have h3 : (2 : Int32) < x := Int32.lt_of_lt_of_le (by decide) (show (3 : Int32) ≤ x from h1)
    refine Or.inr (Or.inl ⟨fun z => ?_, h3⟩)
    exact Int32.not_le.mpr (Int32.lt_of_lt_of_le z (by decide : (0 : Int32) ≤ 3)) h1
  · exact Or.inr (Or.inr h1)
