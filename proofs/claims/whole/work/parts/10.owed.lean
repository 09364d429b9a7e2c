/-! ===== what is owed ===== -/
def i_Rel (_ : Nat) (u : SX) (v : SY) : Prop :=
  ∃ (m : Nat) (V W : Int32) (K A B R Q he Ky ey as bs Ry : Nat → Int32), u = (nI m, V, W, K, A, B, R, Q) ∧ v = (nI m, he, Ky, ey, as, bs, Ry, Q) ∧ eh_Z m V W K A B R Q he Ky ey as bs Ry
theorem eh_rel {k m : Nat} {V W : Int32} {K A B R Q he Ky ey as bs Ry : Nat → Int32} (h : eh_Z m V W K A B R Q he Ky ey as bs Ry) : i_Rel k (nI m, V, W, K, A, B, R, Q) (nI m, he, Ky, ey, as, bs, Ry, Q) :=
  ⟨m, V, W, K, A, B, R, Q, he, Ky, ey, as, bs, Ry, rfl, rfl, h⟩
theorem i_up {k : Nat} {u : SX} {v : SY} (h : i_Rel k u v) : i_Rel (k + 4) u v := h
theorem i_vc0 : wpX_init (fun u => wpY_init (fun v => i_Rel 0 u v)) := by
  refine xc_init (fun R hR => ?_)
  exact eh_rel (k := 0) (eh_start hR)
theorem eh_FY {V W : Int32} {K A B R he Ky ey as bs Ry : Nat → Int32} (hV : ∀ i, bt V i = true → i < 20) (h : eh_Y V W K A B R he Ky ey as bs Ry) : eh_F V (-1) K A B Ky as bs := by
  intro o g
  obtain ⟨a, b, c, _⟩ := h.2.1 o g
  have := hV o g
  exact ⟨a, fun _ => ⟨b, c⟩, fun e => absurd e.symm (eh_m1 o (by omega))⟩
theorem i_vc_make {k : Nat} {u : SX} {v : SY} (I : i_Rel k u v) (hk : k + 4 ≤ 2048) (v1 : Int32) (v2 : Int32) : wpX_make (fun r u' => wpY_make (fun r' v' => r' = r ∧ i_Rel (k + 4) u' v') v v1 v2) u v1 v2 := by
  obtain ⟨m, V, W, K, A, B, R, Q, he, Ky, ey, as, bs, Ry, rfl, rfl, hZ⟩ := I
  have hY := hZ.2
  unfold wpX_make wpY_make
  dsimp only
  rcases eh_kx v1 with h1 | ⟨h1, h2⟩ | ⟨j, hj, rfl⟩
  · exact xc_kl h1 (br_t rfl (br_t h1 ⟨rfl, eh_rel hZ⟩))
  · exact xc_kh h1 h2 (br_t rfl (br_f h1 (br_t h2 ⟨rfl, eh_rel hZ⟩)))
  · obtain ⟨k1, k2, k3⟩ := eh_k3 j hj
    rcases eh_rx v2 with h1 | ⟨h1, h2, h3, h4⟩ | ⟨r, hr, rfl⟩
    · exact xc_kt hj (br_f (by decide) (xc_rl h1 (br_t rfl (br_f k1 (br_f k2 (br_t h1 ⟨rfl, eh_rel hZ⟩))))))
    · exact xc_kt hj (br_f (by decide) (xc_rh h1 h2 (br_t rfl (br_f k1 (br_f k2 (br_f h1 (br_f h4 ⟨rfl, eh_rel hZ⟩)))))))
    · obtain ⟨r1, r2, r3, r4⟩ := eh_r3 r hr
      refine xc_kt hj (br_f (by decide) (xc_rt hr (br_f (by decide) (xc_lfn (fun o ho hn hl => ?_) (fun hl => ?_)))))
      · have e2 : ¬ nI o = (-2 : Int32) := fun z => absurd (show nI o < 0 by rw [z]; decide) (nI_pos (by omega))
        refine br_f e2 (xc_bitOf (fun y1 e1 => ⟨vp_in_nI ho (by decide), fun y2 e2 => ⟨vp_in_nI ho (by decide), fun y3 e3 => ⟨vp_in_nI ho (by decide), fun y4 e4 => ⟨vp_in_nI hr (by decide), fun y5 e5 => ?_⟩⟩⟩⟩))
        rw [eh_bo_n (by omega)] at e1
        subst e1 e2 e3 e4 e5
        rw [nI_clamp (show o < 2 ^ 31 by omega), nI_clamp (show r < 2 ^ 31 by omega)]
        refine br_f k1 (br_f k2 (br_f r1 (br_t r4 (yc_mk hr hY.1 (fun o' ho' hn' hl' => ?_) (fun hl' => absurd (hl' o ho) hn)))))
        have e : o' = o := by
          rcases Nat.lt_trichotomy o' o with z | z | z
          · exact absurd (hl o' z) hn'
          · exact z
          · exact absurd (hl' o z) hn
        subst e
        exact ⟨rfl, eh_rel (eh_make hZ ho hn hr k3)⟩
      · refine br_t rfl (br_f k1 (br_f k2 (br_f r1 (br_t r4 (yc_mk hr hY.1 (fun o' ho' hn' hl' => absurd (hl o' ho') hn') (fun hl' => ⟨rfl, eh_rel hZ⟩))))))
theorem eh_thP {V x : Int32} (h : x = -1 ∨ eh_th V x) : eh_P V x := by
  rcases h with h | ⟨j, a, b, c⟩
  · exact Or.inl h
  · exact Or.inr ⟨j, a, b, c⟩
theorem i_vc_point {k : Nat} {u : SX} {v : SY} (I : i_Rel k u v) (hk : k + 4 ≤ 2048) (v1 : Int32) (v2 : Int32) (v3 : Int32) : wpX_point (fun r u' => wpY_point (fun r' v' => r' = r ∧ i_Rel (k + 4) u' v') v v1 v2 v3) u v1 v2 v3 := by
  obtain ⟨m, V, W, K, A, B, R, Q, he, Ky, ey, as, bs, Ry, rfl, rfl, hZ⟩ := I
  have hY := hZ.2
  unfold wpX_point wpY_point
  dsimp only
  by_cases t1 : eh_th V v1
  · have field : ∀ {c : Prop}, (v2 = 0 → c) → (v2 = 1 → c) → (¬ v2 = 0 → ¬ v2 = 1 → c) → c := fun a b c => by
      by_cases z : v2 = 0
      · exact a z
      · by_cases z1 : v2 = 1
        · exact b z1
        · exact c z z1
    by_cases t3 : v3 = -1 ∨ eh_th V v3
    · have hP := eh_thP t3
      have y17 : ∀ (post : Int32 → SY → Prop), wY_point_32 post v1 v2 v3 (nI m) he Ky ey as bs Ry Q → wY_point_17 post v1 v2 v3 (nI m) he Ky ey as bs Ry Q := by
        intro post h
        by_cases z : v3 = -1
        · exact br_t z h
        · exact br_f z (yc_ist hY.1 (t3.resolve_left z) (br_f (by decide) h))
      obtain ⟨o, ho, hb, rfl⟩ := t1
      have hv : vp_in (nI o) 20 := vp_in_nI ho (by decide)
      refine xc_ist ⟨o, ho, hb, rfl⟩ (br_f (by decide) (xc_itt t3 (br_f (by decide) ?_)))
      refine field (fun z => ?_) (fun z => ?_) (fun z z1 => ?_)
      · subst z
        refine br_t rfl (br_f (by decide) (br_t rfl ⟨hv, fun y e => ?_⟩))
        subst e
        refine yc_ist hY.1 ⟨o, ho, hb, rfl⟩ (br_f (by decide) (br_t rfl (y17 _ (br_t rfl ⟨hv, fun y e => br_f (by decide) ⟨hv, hv, fun y' e' => ?_⟩⟩))))
        subst e e'
        rw [nI_clamp (show o < 2 ^ 31 by omega), eh_updid]
        exact ⟨rfl, eh_rel (eh_pointA hZ hP)⟩
      · subst z
        refine br_f (by decide) (br_t rfl (br_f (by decide) (br_f (by decide) ⟨hv, fun y e => ?_⟩)))
        subst e
        refine yc_ist hY.1 ⟨o, ho, hb, rfl⟩ (br_f (by decide) (br_f (by decide) (br_t rfl (y17 _ (br_f (by decide) ⟨hv, hv, fun y e => br_t rfl ⟨hv, fun y' e' => ?_⟩⟩)))))
        subst e e'
        rw [nI_clamp (show o < 2 ^ 31 by omega), eh_updid]
        exact ⟨rfl, eh_rel (eh_pointB hZ hP)⟩
      · exact br_f z (br_f z1 (br_t rfl (yc_ist hY.1 ⟨o, ho, hb, rfl⟩ (br_f (by decide) (br_f z (br_f z1 ⟨rfl, eh_rel hZ⟩))))))
    · have y17 : ∀ (post : Int32 → SY → Prop), post 0 (nI m, he, Ky, ey, as, bs, Ry, Q) → wY_point_17 post v1 v2 v3 (nI m) he Ky ey as bs Ry Q := by
        intro post h
        exact br_f (fun z => t3 (Or.inl z)) (yc_isf hY.1 (fun z => t3 (Or.inr z)) (br_t rfl h))
      refine xc_ist t1 (br_f (by decide) (xc_itf t3 (br_t rfl (yc_ist hY.1 t1 (br_f (by decide) ?_)))))
      refine field (fun z => ?_) (fun z => ?_) (fun z z1 => ?_)
      · exact br_t z (y17 _ ⟨rfl, eh_rel hZ⟩)
      · exact br_f (fun z0 => absurd (z0.symm.trans z) (by decide)) (br_t z (y17 _ ⟨rfl, eh_rel hZ⟩))
      · exact br_f z (br_f z1 ⟨rfl, eh_rel hZ⟩)
  · exact xc_isf t1 (br_t rfl (yc_isf hY.1 t1 (br_t rfl ⟨rfl, eh_rel hZ⟩)))
theorem i_vc_root {k : Nat} {u : SX} {v : SY} (I : i_Rel k u v) (hk : k + 4 ≤ 2048) (v1 : Int32) (v2 : Int32) : wpX_root (fun r u' => wpY_root (fun r' v' => r' = r ∧ i_Rel (k + 4) u' v') v v1 v2) u v1 v2 := by
  obtain ⟨m, V, W, K, A, B, R, Q, he, Ky, ey, as, bs, Ry, rfl, rfl, hZ⟩ := I
  have hY := hZ.2
  unfold wpX_root wpY_root
  dsimp only
  rcases eh_rx v1 with h1 | ⟨h1, h2, h3, h4⟩ | ⟨r, hr, rfl⟩
  · exact xc_rl h1 (br_t rfl (br_t h1 ⟨rfl, eh_rel hZ⟩))
  · exact xc_rh h1 h2 (br_t rfl (br_f h1 (br_t h3 ⟨rfl, eh_rel hZ⟩)))
  · obtain ⟨r1, r2, r3, r4⟩ := eh_r3 r hr
    have hv : vp_in (nI r) 4 := vp_in_nI hr (by decide)
    by_cases t : v2 = -1 ∨ eh_th V v2
    · refine xc_rt hr (br_f (by decide) (xc_itt t (br_f (by decide) ⟨hv, fun y e => br_f r1 (br_f r3 ?_)⟩)))
      have fin : wY_root_24 (fun r' v' => r' = 1 ∧ i_Rel (k + 4) (nI m, V, W, K, A, B, y, Q) v') (nI r) v2 (nI m) he Ky ey as bs Ry Q := by
        refine ⟨hv, fun y' e' => ?_⟩
        subst e e'
        rw [nI_clamp (show r < 2 ^ 31 by omega)]
        exact ⟨rfl, eh_rel (eh_root hZ (eh_thP t))⟩
      by_cases z : v2 = -1
      · exact br_t z fin
      · exact br_f z (yc_ist hY.1 (t.resolve_left z) (br_f (by decide) fin))
    · refine xc_rt hr (br_f (by decide) (xc_itf t (br_t rfl (br_f r1 (br_f r3 (br_f (fun z => t (Or.inl z)) (yc_isf hY.1 (fun z => t (Or.inr z)) (br_t rfl ⟨rfl, eh_rel hZ⟩))))))))
theorem i_vc_watch {k : Nat} {u : SX} {v : SY} (I : i_Rel k u v) (hk : k + 4 ≤ 2048) (v1 : Int32) : wpX_watch (fun r u' => wpY_watch (fun r' v' => r' = r ∧ i_Rel (k + 4) u' v') v v1) u v1 := by
  obtain ⟨m, V, W, K, A, B, R, Q, he, Ky, ey, as, bs, Ry, rfl, rfl, hZ⟩ := I
  have hY := hZ.2
  unfold wpX_watch wpY_watch
  dsimp only
  by_cases t : eh_th V v1
  · obtain ⟨o, ho, hb, rfl⟩ := t
    refine xc_ist ⟨o, ho, hb, rfl⟩ (br_f (by decide) (xc_bitOf (fun y e => yc_ist hY.1 ⟨o, ho, hb, rfl⟩ (br_f (by decide) ⟨vp_in_nI ho (by decide), fun y' e' => ?_⟩))))
    rw [eh_bo_n (by omega)] at e
    subst e e'
    rw [nI_clamp (show o < 2 ^ 31 by omega), eh_nb1]
    exact ⟨rfl, eh_rel (eh_watch hZ hb)⟩
  · exact xc_isf t (br_t rfl (yc_isf hY.1 t (br_t rfl ⟨rfl, eh_rel hZ⟩)))
theorem i_vc_clean {k : Nat} {u : SX} {v : SY} (I : i_Rel k u v) (hk : k + 4 ≤ 2048) : wpX_clean (fun r u' => wpY_clean (fun r' v' => r' = r ∧ i_Rel (k + 4) u' v') v) u := by
  obtain ⟨m, V, W, K, A, B, R, Q, he, Ky, ey, as, bs, Ry, rfl, rfl, hX, hY⟩ := I
  have hFY := eh_FY hX.1 hY
  obtain ⟨y1, y2, y3⟩ := hY
  unfold wpX_clean wpY_clean
  dsimp only
  refine xc_alive hX (fun Bf hB E eE => ?_)
  have hD : ∀ o, o < 20 → bt E o = eh_D W Bf o := by
    intro o ho
    rw [eE, b_and, eh_not Bf (by omega)]
    rfl
  refine xc_enq hD (fun o ho => eh_qle (eh_Dq hX hB o ho)) (fun W' eW' => ?_)
  have hW' : ∀ i, i < 32 → (bt W' i = true ↔ bt W i = true ∧ bt Bf i = true) := by
    intro i hi
    rw [eW', b_and, eh_not E hi, eE, b_and, eh_not Bf hi]
    cases bt W i <;> cases bt Bf i <;> decide
  have hWW : eh_sub W' W := fun i g => ((hW' i (eh_lt g)).mp g).1
  have hX2 := eh_X2 hX hB hWW
  refine xc_alive hX2 (fun Nw hN G eG V' eV' => ?_)
  have hV' : ∀ i, i < 32 → (bt V' i = true ↔ bt V i = true ∧ bt Nw i = true) := by
    intro i hi
    rw [eV', b_and, Bool.and_eq_true]
  refine xc_cf (V0 := V) (fun o g => (hX.2.2.1 o ((hV' o (eh_lt g)).mp g).1).2.1) (fun o g => hX.1 o ((hV' o (eh_lt g)).mp g).1) (fun A' B' hA' hB' => ?_)
  refine xc_count ?_
  have hG : eh_cn (bt G) 20 = eh_cn (fun o => bt V o && !bt Nw o) 20 := by
    refine eh_cn_eq 20 (fun i hi => ?_)
    rw [eG, b_and, eh_not Nw (by omega)]
  rw [hG]
  obtain ⟨hX3, _⟩ := eh_clean hX hB hN hV' hW' hA' hB'
  refine yc_live hX hFY y3 (fun Bf2 hB2 => ?_)
  have eB := eh_Au hB2 hB
  subst eB
  refine yc_cl7 hX y1 (fun o g => (y2 o g).2.2.2) hB2 hW' (fun e' he' => ?_)
  refine yc_live hX2 hFY y3 (fun Nw2 hN2 => ?_)
  have eN := eh_Au hN2 hN
  subst eN
  refine yc_82 y1 (fun o g => ⟨(y2 o g).1, (y2 o g).2.1, (y2 o g).2.2.1⟩) (fun o g => (hX.2.2.1 o g).2.1) hV' hX.1 (fun he2 as2 bs2 a1 a2 => ⟨rfl, eh_rel ⟨hX3, a1, fun o g => ?_, y3⟩⟩)
  have gV := ((hV' o (eh_lt g)).mp g).1
  show Ky o = K o ∧ as2 o = A' o + 1 ∧ bs2 o = B' o + 1 ∧ e' o = if bt W' o = true then 1 else 0
  rw [hA' o g, hB' o g]
  exact ⟨(y2 o gV).1, (a2 o g).1, (a2 o g).2, he' o gV⟩
theorem i_vc_take {k : Nat} {u : SX} {v : SY} (I : i_Rel k u v) (hk : k + 4 ≤ 2048) (v1 : Int32) : wpX_take (fun r u' => wpY_take (fun r' v' => r' = r ∧ i_Rel (k + 4) u' v') v v1) u v1 := by
  obtain ⟨m, V, W, K, A, B, R, Q, he, Ky, ey, as, bs, Ry, rfl, rfl, hZ⟩ := I
  have hm := eh_X20 hZ.1
  unfold wpX_take wpY_take
  dsimp only
  rcases eh_rx v1 with h1 | ⟨h1, h2, h3, h4⟩ | ⟨r, hr, rfl⟩
  · exact xc_rl h1 (br_t rfl (br_t h1 ⟨rfl, eh_rel hZ⟩))
  · exact xc_rh h1 h2 (br_t rfl (br_f h1 (br_t h3 ⟨rfl, eh_rel hZ⟩)))
  · obtain ⟨r1, r2, r3, r4⟩ := eh_r3 r hr
    cases m with
    | zero => exact xc_rt hr (br_f (by decide) (br_t rfl (br_f r1 (br_f r3 (br_t rfl ⟨rfl, eh_rel hZ⟩)))))
    | succ m =>
      have hn : ¬ nI (m + 1) = 0 := nI_ne0 (by omega) (by omega)
      refine xc_rt hr (br_f (by decide) (br_f hn (fun y e => ?_)))
      subst e
      refine xc_tk hm hr (br_f r1 (br_f r3 (br_f hn (fun y e w ew => ?_))))
      subst e ew
      rw [nI_pred]
      refine yc_tk hm hr ⟨rfl, eh_rel (eh_take hZ (fun i hi => ?_))⟩
      exact if_pos (by omega)
theorem i_vc_objects {k : Nat} {u : SX} {v : SY} (I : i_Rel k u v) (hk : k + 4 ≤ 2048) : wpX_objects (fun r => wpY_objects (fun r' => r' = r ∧ i_Rel (k + 4) u v) v) u := by
  obtain ⟨m, V, W, K, A, B, R, Q, he, Ky, ey, as, bs, Ry, rfl, rfl, hZ⟩ := I
  unfold wpX_objects
  dsimp only
  exact xc_count (yc_obj hZ.2.1 ⟨rfl, eh_rel hZ⟩)
theorem i_vc_there {k : Nat} {u : SX} {v : SY} (I : i_Rel k u v) (hk : k + 4 ≤ 2048) : wpX_there (fun r => wpY_there (fun r' => r' = r ∧ i_Rel (k + 4) u v) v) u := by
  obtain ⟨m, V, W, K, A, B, R, Q, he, Ky, ey, as, bs, Ry, rfl, rfl, hZ⟩ := I
  unfold wpX_there
  dsimp only
  exact yc_there hZ.2.1 hZ.1.1 ⟨rfl, eh_rel hZ⟩
theorem i_vc_alive {k : Nat} {u : SX} {v : SY} (I : i_Rel k u v) (hk : k + 4 ≤ 2048) : wpX_alive (fun r => wpY_alive (fun r' => r' = r ∧ i_Rel (k + 4) u v) v) u := by
  obtain ⟨m, V, W, K, A, B, R, Q, he, Ky, ey, as, bs, Ry, rfl, rfl, hZ⟩ := I
  unfold wpX_alive wpY_alive
  dsimp only
  refine xc_alive hZ.1 (fun S hS => yc_live hZ.1 (eh_FY hZ.1.1 hZ.2) hZ.2.2.2 (fun T hT => ⟨eh_Au hT hS, eh_rel hZ⟩))
theorem eh_s1 {x a : Int32} (h : x = a + 1) : x - 1 = a := by
  rw [h, Int32.add_sub_cancel]
theorem i_vc_field {k : Nat} {u : SX} {v : SY} (I : i_Rel k u v) (hk : k + 4 ≤ 2048) (v1 : Int32) (v2 : Int32) : wpX_field (fun r => wpY_field (fun r' => r' = r ∧ i_Rel (k + 4) u v) v v1 v2) u v1 v2 := by
  obtain ⟨m, V, W, K, A, B, R, Q, he, Ky, ey, as, bs, Ry, rfl, rfl, hZ⟩ := I
  have hY := hZ.2
  unfold wpX_field wpY_field
  dsimp only
  by_cases t : eh_th V v1
  · obtain ⟨o, ho, hb, rfl⟩ := t
    have hv : vp_in (nI o) 20 := vp_in_nI ho (by decide)
    obtain ⟨_, f1, f2, _⟩ := hY.2.1 o hb
    refine xc_ist ⟨o, ho, hb, rfl⟩ (br_f (by decide) ?_)
    by_cases z : v2 = 0
    · subst z
      refine br_t rfl (br_f (by decide) (br_t rfl ⟨hv, yc_ist hY.1 ⟨o, ho, hb, rfl⟩ (br_f (by decide) (br_t rfl (br_t rfl ⟨hv, ?_⟩)))⟩))
      rw [nI_clamp (show o < 2 ^ 31 by omega)]
      exact ⟨eh_s1 f1, eh_rel hZ⟩
    · by_cases z1 : v2 = 1
      · refine br_f z (br_t z1 (br_f (by decide) (br_f z ⟨hv, yc_ist hY.1 ⟨o, ho, hb, rfl⟩ (br_f (by decide) (br_f z (br_t z1 (br_f z ⟨hv, ?_⟩))))⟩)))
        rw [nI_clamp (show o < 2 ^ 31 by omega)]
        exact ⟨eh_s1 f2, eh_rel hZ⟩
      · exact br_f z (br_f z1 (br_t rfl (yc_ist hY.1 ⟨o, ho, hb, rfl⟩ (br_f (by decide) (br_f z (br_f z1 ⟨rfl, eh_rel hZ⟩))))))
  · exact xc_isf t (br_t rfl (yc_isf hY.1 t (br_t rfl ⟨rfl, eh_rel hZ⟩)))
theorem i_vc_kind {k : Nat} {u : SX} {v : SY} (I : i_Rel k u v) (hk : k + 4 ≤ 2048) (v1 : Int32) : wpX_kind (fun r => wpY_kind (fun r' => r' = r ∧ i_Rel (k + 4) u v) v v1) u v1 := by
  obtain ⟨m, V, W, K, A, B, R, Q, he, Ky, ey, as, bs, Ry, rfl, rfl, hZ⟩ := I
  have hY := hZ.2
  unfold wpX_kind wpY_kind
  dsimp only
  by_cases t : eh_th V v1
  · obtain ⟨o, ho, hb, rfl⟩ := t
    have hv : vp_in (nI o) 20 := vp_in_nI ho (by decide)
    refine xc_ist ⟨o, ho, hb, rfl⟩ (br_f (by decide) ⟨hv, yc_ist hY.1 ⟨o, ho, hb, rfl⟩ (br_f (by decide) ⟨hv, ?_⟩)⟩)
    rw [nI_clamp (show o < 2 ^ 31 by omega)]
    exact ⟨(hY.2.1 o hb).1, eh_rel hZ⟩
  · exact xc_isf t (br_t rfl (yc_isf hY.1 t (br_t rfl ⟨rfl, eh_rel hZ⟩)))
theorem i_vc_rootOf {k : Nat} {u : SX} {v : SY} (I : i_Rel k u v) (hk : k + 4 ≤ 2048) (v1 : Int32) : wpX_rootOf (fun r => wpY_rootOf (fun r' => r' = r ∧ i_Rel (k + 4) u v) v v1) u v1 := by
  obtain ⟨m, V, W, K, A, B, R, Q, he, Ky, ey, as, bs, Ry, rfl, rfl, hZ⟩ := I
  unfold wpX_rootOf wpY_rootOf
  dsimp only
  rcases eh_rx v1 with h1 | ⟨h1, h2, h3, h4⟩ | ⟨r, hr, rfl⟩
  · exact xc_rl h1 (br_t rfl (br_t h1 ⟨rfl, eh_rel hZ⟩))
  · exact xc_rh h1 h2 (br_t rfl (br_f h1 (br_t h3 ⟨rfl, eh_rel hZ⟩)))
  · obtain ⟨r1, r2, r3, r4⟩ := eh_r3 r hr
    have hv : vp_in (nI r) 4 := vp_in_nI hr (by decide)
    refine xc_rt hr (br_f (by decide) ⟨hv, br_f r1 (br_f r3 ⟨hv, ?_⟩)⟩)
    rw [nI_clamp (show r < 2 ^ 31 by omega)]
    exact ⟨eh_s1 (hZ.2.2.2 r hr), eh_rel hZ⟩
theorem i_vc_queued {k : Nat} {u : SX} {v : SY} (I : i_Rel k u v) (hk : k + 4 ≤ 2048) : wpX_queued (fun r => wpY_queued (fun r' => r' = r ∧ i_Rel (k + 4) u v) v) u := by
  obtain ⟨m, V, W, K, A, B, R, Q, he, Ky, ey, as, bs, Ry, rfl, rfl, hZ⟩ := I
  unfold wpX_queued wpY_queued
  dsimp only
  exact ⟨rfl, eh_rel hZ⟩
theorem i_vc_watched {k : Nat} {u : SX} {v : SY} (I : i_Rel k u v) (hk : k + 4 ≤ 2048) : wpX_watched (fun r => wpY_watched (fun r' => r' = r ∧ i_Rel (k + 4) u v) v) u := by
  obtain ⟨m, V, W, K, A, B, R, Q, he, Ky, ey, as, bs, Ry, rfl, rfl, hZ⟩ := I
  unfold wpX_watched
  dsimp only
  exact yc_watched hZ.2.1 hZ.1.1 hZ.1.2.1 (fun o g => (hZ.2.2.1 o g).2.2.2) ⟨rfl, eh_rel hZ⟩
theorem eh_updud (f : Nat → Int32) (k : Nat) (x : Int32) : upd (upd f k x) k (f k) = f := by
  funext j
  by_cases e : j = k
  · rw [e, pk_us]
  · rw [pk_un e, pk_un e]
theorem i_vc_heldBy {k : Nat} {u : SX} {v : SY} (I : i_Rel k u v) (hk : k + 4 ≤ 2048) (v1 : Int32) : wpX_heldBy (fun r => wpY_heldBy (fun r' v' => r' = r ∧ i_Rel (k + 4) u v') v v1) u v1 := by
  obtain ⟨m, V, W, K, A, B, R, Q, he, Ky, ey, as, bs, Ry, rfl, rfl, hZ⟩ := I
  have hY := hZ.2
  have hFY := eh_FY hZ.1.1 hY
  unfold wpX_heldBy wpY_heldBy
  dsimp only
  by_cases t : eh_th V v1
  · obtain ⟨o, ho, hb, rfl⟩ := t
    have hv : vp_in (nI o) 20 := vp_in_nI ho (by decide)
    have hF2 : eh_F V (nI o) K A B Ky (upd as o 0) (upd bs o 0) := by
      intro i g
      obtain ⟨f1, f2, f3, _⟩ := hY.2.1 i g
      have := hZ.1.1 i g
      refine ⟨f1, fun z => ?_, fun z => ?_⟩
      · have : i ≠ o := fun e => z (by rw [e])
        rw [pk_un this, pk_un this]
        exact ⟨f2, f3⟩
      · have : i = o := eh_inj (by omega) (by omega) z
        subst this
        rw [pk_us, pk_us]
        exact ⟨rfl, rfl⟩
    refine xc_ist ⟨o, ho, hb, rfl⟩ (br_f (by decide) (xc_alive hZ.1 (fun S hS => xc_alive hZ.1 (fun T hT => ?_))))
    refine yc_ist hY.1 ⟨o, ho, hb, rfl⟩ (br_f (by decide) (yc_live hZ.1 hFY hY.2.2 (fun S2 hS2 => ⟨hv, fun y1 e1 => ⟨hv, fun y2 e2 => ⟨hv, fun y3 e3 => ⟨hv, fun y4 e4 => ?_⟩⟩⟩⟩)))
    rw [nI_clamp (show o < 2 ^ 31 by omega)] at e1 e2 e3 e4 ⊢
    subst e3 e4
    refine yc_live hZ.1 hF2 hY.2.2 (fun T2 hT2 y5 e5 => ⟨hv, fun y6 e6 => ⟨hv, fun y7 e7 => ?_⟩⟩)
    have eS := eh_Au hS2 hS
    have eT := eh_Au hT2 hT
    subst e1 e2
    rw [eh_updud] at e6 e7
    subst e6 e7
    rw [eS, eT] at e5
    exact ⟨e5, eh_rel hZ⟩
  · exact xc_isf t (br_t rfl (yc_isf hY.1 t (br_t rfl ⟨rfl, eh_rel hZ⟩)))
