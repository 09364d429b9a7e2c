/-! ===== X's private methods ===== -/
theorem xc_cp {V S x : Int32} {post : Int32 → Prop} (hx : eh_P V x) (ht : eh_hb S x = true → post 1) (hf : eh_hb S x = false → post 0) : wpX_contains post S x := by
  rcases hx with hx | ⟨j, hj, _, hx⟩
  · subst hx
    exact br_t (by decide) (hf (eh_hb_m S))
  · subst hx
    rw [eh_hb_n S (by omega)] at ht hf
    refine br_f (nI_pos (by omega)) ?_
    by_cases g : bt S j = true
    · exact br_t ((eh_t1 S (by omega)).mpr g) (ht g)
    · exact br_f (fun z => g ((eh_t1 S (by omega)).mp z)) (hf (by cases hb : bt S j <;> first | rfl | exact absurd hb g))
theorem xc_cn {S : Int32} {o : Nat} {post : Int32 → Prop} (ho : o < 32) (ht : bt S o = true → post 1) (hf : ¬ bt S o = true → post 0) : wpX_contains post S (nI o) := by
  refine br_f (nI_pos (by omega)) ?_
  by_cases g : bt S o = true
  · exact br_t ((eh_t1 S ho).mpr g) (ht g)
  · exact br_f (fun z => g ((eh_t1 S ho).mp z)) (hf g)
theorem xc_bitOf {x : Int32} {post : Int32 → Prop} (h : post (eh_bo x)) : wpX_bitOf post x := by
  unfold eh_bo at h
  by_cases e : x = -1
  · rw [if_pos e] at h; exact br_t e h
  · rw [if_neg e] at h; exact br_f e h
theorem xc_roq {m : Nat} {V W : Int32} {K A B R Q : Nat → Int32} {post : Int32 → Prop} (hX : eh_X m V W K A B R Q) (h : ∀ S, eh_0 R Q m S → post S) : wpX_rootedOrQueued post (nI m, V, W, K, A, B, R, Q) := by
  have hm := eh_X20 hX
  show ∃ n4 : Nat, wX_rootedOrQueued_4 post (nI m) V W K A B R Q n4 0 0
  refine loop_0 (fun n i s => wX_rootedOrQueued_4 post (nI m) V W K A B R Q n s (nI i)) (fun i s => eh_01 R i s) 4 0 (eh_01z R) (fun n s hs => ?_) (fun n i s hi hs hk => ?_)
  · refine br_t (show (4 : Int32) ≤ nI 4 by decide) ?_
    refine loop_0 (fun n i s => wX_rootedOrQueued_29 post (nI m) V W K A B R Q n s (nI i)) (fun i s => eh_0 R Q i s) m s (eh_02z hs) (fun n s hs => ?_) (fun n i s hi hs hk => ?_)
    · exact br_t (nI_le (Nat.le_refl _) (by omega)) (h s hs)
    · refine br_f (nI_ge hi (by omega)) ⟨vp_in_nI (by omega) (by omega), ?_⟩
      rw [nI_clamp (show i < 2 ^ 31 by omega)]
      refine xc_bitOf (fun y ey z ez => ?_)
      subst ey ez
      rw [nI_1]
      exact hk _ (eh_02s hs (eh_Qp hX hi))
  · refine br_f (nI_ge (b := 4) hi (by decide)) ⟨vp_in_nI hi (by decide), ?_⟩
    rw [nI_clamp (show i < 2 ^ 31 by omega)]
    refine xc_bitOf (fun y ey z ez => ?_)
    subst ey ez
    rw [nI_1]
    exact hk _ (eh_01s hs (hX.2.2.2.1 i hi))
theorem xc_kept {m o : Nat} {V W S : Int32} {K A B R Q : Nat → Int32} {post : Int32 → Prop} (hX : eh_X m V W K A B R Q) (hb : bt V o = true)
    (h : ∀ r, (∀ p, p < 32 → (bt r p = true ↔ eh_k K A B o S p)) → post r) : wpX_keptBy post (nI m, V, W, K, A, B, R, Q) (nI o) S := by
  obtain ⟨k1, k2, k3⟩ := hX.2.2.1 o hb
  have o20 := hX.1 o hb
  have hv : vp_in (nI o) 20 := vp_in_nI o20 (by decide)
  unfold wpX_keptBy
  dsimp only
  rw [nI_clamp (show o < 2 ^ 31 by omega)]
  refine ⟨hv, xc_bitOf ⟨hv, ?_⟩⟩
  by_cases e0 : K o = 0
  · refine br_t e0 ⟨hv, xc_bitOf (h _ (eh_kr0 k2 k3 e0 (fun p _ => ?_)))⟩
    rw [b_or, Bool.or_eq_true]
    exact Or.comm
  · refine br_f e0 ⟨hv, ?_⟩
    by_cases e2 : K o = 2
    · refine br_t e2 ⟨hv, xc_cp k2 (fun g => ?_) (fun g => ?_)⟩
      · exact br_f (by decide) (h _ (eh_kr1 k3 e0 (fun _ => g)))
      · exact br_t rfl (h _ (eh_kr2 e2 g))
    · exact br_f e2 (h _ (eh_kr1 k3 e0 (fun z => absurd z e2)))
theorem xc_grow {m : Nat} {V W S em : Int32} {K A B R Q : Nat → Int32} {post : Int32 → Prop} (hX : eh_X m V W K A B R Q) (hS : eh_sub S V)
    (h : ∀ L, eh_G K A B em S 20 L → post L) : wpX_grow post (nI m, V, W, K, A, B, R, Q) S em := by
  show ∃ n5 : Nat, wX_grow_5 post S em (nI m) V W K A B R Q n5 S 0
  refine loop_0 (fun n i s => wX_grow_5 post S em (nI m) V W K A B R Q n s (nI i)) (fun i s => eh_G K A B em S i s) 20 S (eh_G0 K A B em S) (fun n s hs => ?_) (fun n i s hi hs hk => ?_)
  · exact br_t (show (20 : Int32) ≤ nI 20 by decide) (h s hs)
  · refine br_f (nI_ge (b := 20) hi (by decide)) ?_
    by_cases e : nI i = em
    · refine br_t e (fun y ey => ?_)
      subst ey
      rw [nI_1]
      exact hk _ (eh_Gskip hs (Or.inl e))
    · refine br_f e (xc_cn (by omega) (fun g => ?_) (fun g => ?_))
      · refine br_f (by decide) (xc_kept hX (hS i g) (fun r hr y ey z ez => ?_))
        obtain ⟨_, k2, k3⟩ := hX.2.2.1 i (hS i g)
        subst ey ez
        rw [nI_1]
        exact hk _ (eh_Gadd2 hi hs (eh_sub_r S) hs.1 g e k2 k3 hr)
      · refine br_t rfl (fun y ey => ?_)
        subst ey
        rw [nI_1]
        exact hk _ (eh_Gskip hs (Or.inr g))
theorem xc_alive {m : Nat} {V W em : Int32} {K A B R Q : Nat → Int32} {post : Int32 → Prop} (hX : eh_X m V W K A B R Q)
    (h : ∀ S, eh_A K A B R Q m em S → post S) : wpX_findAlive post (nI m, V, W, K, A, B, R, Q) em := by
  unfold wpX_findAlive
  dsimp only
  refine xc_roq hX (fun S0 h0 => ?_)
  refine loop_0 (fun n i s => wX_findAlive_7 post em (nI m) V W K A B R Q n s (nI i)) (fun i s => eh_I K A B em S0 i s) 20 S0 (eh_I0 K A B em S0) (fun n s hs => ?_) (fun n i s hi hs hk => ?_)
  · exact br_t (show (20 : Int32) ≤ nI 20 by decide) (h s (eh_AI h0 hs))
  · refine br_f (nI_ge (b := 20) hi (by decide)) (xc_grow hX (hs.2.1 V (eh_XC hX em) (eh_X0 hX h0)) (fun L hL y ey => ?_))
    subst ey
    rw [nI_1]
    exact hk _ (eh_I1 hX.1 (eh_XC hX em) (eh_X0 hX h0) hs hL)
theorem xc_count {S : Int32} {post : Int32 → Prop} (h : post (nI (eh_cn (bt S) 20))) : wpX_count post S := by
  show ∃ n4 : Nat, wX_count_4 post S n4 0 0
  refine loop_0 (fun n i s => wX_count_4 post S n s (nI i)) (fun i s => s = nI (eh_cn (bt S) i)) 20 0 rfl (fun n s hs => ?_) (fun n i s hi hs hk => ?_)
  · exact br_t (show (20 : Int32) ≤ nI 20 by decide) (by rw [hs]; exact h)
  · refine br_f (nI_ge (b := 20) hi (by decide)) (fun y ey z ez => ?_)
    subst ey ez
    rw [nI_1]
    refine hk _ ?_
    show s + _ = nI (eh_cn (bt S) i + (if bt S i = true then 1 else 0))
    rw [hs, eh_val S (by omega), ← nI_add]
    by_cases g : bt S i = true
    · rw [if_pos g, if_pos g]; rfl
    · rw [if_neg g, if_neg g]; rfl
theorem xc_enq {m : Nat} {V W E : Int32} {K A B R Q : Nat → Int32} {D : Nat → Bool} {post : SX → Prop} (hD : ∀ o, o < 20 → bt E o = D o) (hq : ∀ o, o ≤ 20 → eh_qn D m o ≤ 20)
    (h : post (nI (eh_qn D m 20), V, W, K, A, B, R, eh_qf D m Q 20)) : wpX_enqueue post (nI m, V, W, K, A, B, R, Q) E := by
  show ∃ n2 : Nat, wX_enqueue_2 post E V W n2 0 (nI m) K A B R Q
  refine loop_0 (fun n i (_ : Unit) => wX_enqueue_2 post E V W n (nI i) (nI (eh_qn D m i)) K A B R (eh_qf D m Q i)) (fun _ _ => True) 20 () trivial (fun n s _ => ?_) (fun n i s hi _ hk => ?_)
  · exact br_t (show (20 : Int32) ≤ nI 20 by decide) h
  · have hk2 : wX_enqueue_2 post E V W n (nI (i + 1)) (nI (eh_qn D m (i + 1))) K A B R (eh_qf D m Q (i + 1)) := hk () trivial
    refine br_f (nI_ge (b := 20) hi (by decide)) (xc_cn (by omega) (fun g => ?_) (fun g => ?_))
    · rw [hD i hi] at g
      have h1 := hq (i + 1) (by omega)
      rw [eh_qnt g] at h1
      rw [eh_qnt g, eh_qft g] at hk2
      refine br_f (by decide) (br_f (nI_ge (b := 20) (by omega) (by decide)) ⟨vp_in_nI (by omega) (by decide), fun y ey z ez w ew => ?_⟩)
      subst ey ez ew
      rw [nI_1 i, nI_1 (eh_qn D m i), nI_clamp (by omega)]
      exact hk2
    · rw [hD i hi] at g
      rw [eh_qnf g, eh_qff g] at hk2
      refine br_t rfl (fun y ey => ?_)
      subst ey
      rw [nI_1]
      exact hk2
theorem xc_30 {n V W Nw V0 : Int32} {o : Nat} {K A B R Q : Nat → Int32} {post : SX → Prop} (ho : o < 20) (hA : eh_P V0 (A o))
    (h2 : K o = 2 → eh_hb Nw (A o) = false → post (n, V, W, K, upd A o (-1), upd B o (-1), R, Q)) (h1 : ¬ (K o = 2 ∧ eh_hb Nw (A o) = false) → post (n, V, W, K, A, B, R, Q)) :
    wX_clearFieldsOf_30 post (nI o) Nw n V W K A B R Q := by
  have hv : vp_in (nI o) 20 := vp_in_nI ho (by decide)
  unfold wX_clearFieldsOf_30
  rw [nI_clamp (show o < 2 ^ 31 by omega)]
  refine ⟨hv, ?_⟩
  by_cases e : K o = 2
  · refine br_t e ⟨hv, xc_cp hA (fun g => ?_) (fun g => ?_)⟩
    · exact br_f (by decide) (h1 (fun z => by rw [g] at z; exact absurd z.2 (by decide)))
    · refine br_t rfl ⟨hv, fun y ey => ⟨hv, fun z ez => ?_⟩⟩
      subst ey ez
      exact h2 e g
  · exact br_f e (h1 (fun z => e z.1))
theorem xc_cfo {n V W Bf Nw V0 : Int32} {o : Nat} {K A B R Q : Nat → Int32} {post : SX → Prop} (ho : o < 20) (hA : eh_P V0 (A o))
    (h : ∀ A' B' : Nat → Int32, A' o = eh_cA K A Bf Nw o → B' o = eh_cB K A B Nw o → (∀ j, j ≠ o → A' j = A j ∧ B' j = B j) → post (n, V, W, K, A', B', R, Q)) :
    wpX_clearFieldsOf post (n, V, W, K, A, B, R, Q) (nI o) Bf Nw := by
  have hv : vp_in (nI o) 20 := vp_in_nI ho (by decide)
  unfold wpX_clearFieldsOf
  dsimp only
  rw [nI_clamp (show o < 2 ^ 31 by omega)]
  refine ⟨hv, ?_⟩
  have two : K o = 1 → ¬ K o = 2 := fun e1 e2 => absurd (e1.symm.trans e2) (by decide)
  by_cases e : K o = 1
  · refine br_t e ⟨hv, xc_cp hA (fun g => ?_) (fun g => ?_)⟩
    · refine br_f (by decide) (xc_30 ho hA (fun e2 _ => absurd e2 (two e)) (fun _ => h A B ?_ ?_ (fun j _ => ⟨rfl, rfl⟩)))
      · unfold eh_cA
        rw [if_neg]
        rintro (z | z)
        · rw [g] at z; exact absurd z.2 (by decide)
        · exact two e z.1
      · unfold eh_cB
        rw [if_neg (fun z => two e z.1)]
    · refine br_t rfl ⟨hv, fun y ey => ?_⟩
      subst ey
      refine xc_30 (V0 := V0) ho (by rw [pk_us]; exact Or.inl rfl) (fun e2 _ => absurd e2 (two e)) (fun _ => h _ B ?_ ?_ (fun j hj => ⟨pk_un hj, rfl⟩))
      · unfold eh_cA
        rw [pk_us, if_pos (Or.inl ⟨e, g⟩)]
      · unfold eh_cB
        rw [if_neg (fun z => two e z.1)]
  · refine br_f e (xc_30 ho hA (fun e2 g => ?_) (fun g => ?_))
    · refine h _ _ ?_ ?_ (fun j hj => ⟨pk_un hj, pk_un hj⟩)
      · unfold eh_cA
        rw [pk_us, if_pos (Or.inr ⟨e2, g⟩)]
      · unfold eh_cB
        rw [pk_us, if_pos ⟨e2, g⟩]
    · refine h A B ?_ ?_ (fun j _ => ⟨rfl, rfl⟩)
      · unfold eh_cA
        rw [if_neg]
        rintro (z | z)
        · exact e z.1
        · exact g z
      · unfold eh_cB
        rw [if_neg g]
theorem xc_cf {n V W Bf Nw V0 : Int32} {K A B R Q : Nat → Int32} {post : SX → Prop} (hP : ∀ o, bt V o = true → eh_P V0 (A o)) (h20 : ∀ o, bt V o = true → o < 20)
    (h : ∀ A' B' : Nat → Int32, (∀ o, bt V o = true → A' o = eh_cA K A Bf Nw o) → (∀ o, bt V o = true → B' o = eh_cB K A B Nw o) → post (n, V, W, K, A', B', R, Q)) :
    wpX_clearFields post (n, V, W, K, A, B, R, Q) Bf Nw := by
  show ∃ n2 : Nat, wX_clearFields_2 post Bf Nw n2 0 n V W K A B R Q
  refine loop_0 (fun f i (s : (Nat → Int32) × (Nat → Int32)) => wX_clearFields_2 post Bf Nw f (nI i) n V W K s.1 s.2 R Q)
    (fun i s => ∀ j, (j < i → bt V j = true → s.1 j = eh_cA K A Bf Nw j ∧ s.2 j = eh_cB K A B Nw j) ∧ (i ≤ j → s.1 j = A j ∧ s.2 j = B j)) 20 (A, B)
    (fun j => ⟨fun z => absurd z (by omega), fun _ => ⟨rfl, rfl⟩⟩) (fun f s hs => ?_) (fun f i s hi hs hk => ?_)
  · refine br_t (show (20 : Int32) ≤ nI 20 by decide) (h s.1 s.2 (fun o ho => ?_) (fun o ho => ?_))
    · exact ((hs o).1 (h20 o ho) ho).1
    · exact ((hs o).1 (h20 o ho) ho).2
  · obtain ⟨sA, sB⟩ := s
    have ei : sA i = A i ∧ sB i = B i := (hs i).2 (Nat.le_refl _)
    refine br_f (nI_ge (b := 20) hi (by decide)) (xc_cn (by omega) (fun g => ?_) (fun g => ?_))
    · refine br_f (by decide) (xc_cfo (V0 := V0) hi (by show eh_P V0 (sA i); rw [ei.1]; exact hP i g) (fun A' B' ha hb hj y ey => ?_))
      subst ey
      rw [nI_1]
      refine hk (A', B') (fun j => ⟨fun z zb => ?_, fun z => ?_⟩)
      · show A' j = eh_cA K A Bf Nw j ∧ B' j = eh_cB K A B Nw j
        by_cases e : j = i
        · subst e
          rw [ha, hb]
          unfold eh_cA eh_cB
          show (if (K j = 1 ∧ eh_hb Bf (sA j) = false) ∨ (K j = 2 ∧ eh_hb Nw (sA j) = false) then -1 else sA j) = _ ∧ (if K j = 2 ∧ eh_hb Nw (sA j) = false then -1 else sB j) = _
          rw [ei.1, ei.2]
          exact ⟨rfl, rfl⟩
        · rw [(hj j e).1, (hj j e).2]
          exact (hs j).1 (by omega) zb
      · show A' j = A j ∧ B' j = B j
        rw [(hj j (by omega)).1, (hj j (by omega)).2]
        exact (hs j).2 (by omega)
    · refine br_t rfl (fun y ey => ?_)
      subst ey
      rw [nI_1]
      refine hk (sA, sB) (fun j => ⟨fun z zb => ?_, fun z => (hs j).2 (by omega)⟩)
      have : j ≠ i := fun e => g (by rw [← e]; exact zb)
      exact (hs j).1 (by omega) zb
