/-! ===== the small methods ===== -/
theorem eh_nb1 : vp_nar .boolean 1 = 1 := by first | rfl | decide
theorem eh_nb0 : vp_nar .boolean 0 = 0 := by first | rfl | decide
theorem xc_init {post : SX → Prop} (h : ∀ R : Nat → Int32, (∀ r, r < 4 → R r = -1) → post (0, 0, 0, (fun _ => 0), (fun _ => 0), (fun _ => 0), R, (fun _ => 0))) : wpX_init post := by
  show ∃ n60 : Nat, wX_init_60 post 0 0 0 n60 0 (fun _ => 0) (fun _ => 0) (fun _ => 0) (fun _ => 0) (fun _ => 0)
  refine loop_0 (fun n i (s : Nat → Int32) => wX_init_60 post 0 0 0 n (nI i) (fun _ => 0) (fun _ => 0) (fun _ => 0) s (fun _ => 0)) (fun i s => ∀ r, r < i → s r = -1) 4 (fun _ => 0) (fun r z => absurd z (by omega)) (fun n s hs => ?_) (fun n i s hi hs hk => ?_)
  · exact br_t (show (4 : Int32) ≤ nI 4 by decide) (h s hs)
  · refine br_f (nI_ge (b := 4) hi (by decide)) ⟨vp_in_nI hi (by decide), fun y ey z ez => ?_⟩
    subst ey ez
    rw [nI_1, nI_clamp (by omega)]
    refine hk _ (fun r hr => ?_)
    by_cases e : r = i
    · rw [e, pk_us]
    · rw [pk_un e]; exact hs r (by omega)
theorem xc_lfn {n V W : Int32} {K A B R Q : Nat → Int32} {post : Int32 → Prop} (h1 : ∀ o, o < 20 → ¬ bt V o = true → (∀ j, j < o → bt V j = true) → post (nI o)) (h2 : (∀ j, j < 20 → bt V j = true) → post (-2)) :
    wpX_leastFreeNumber post (n, V, W, K, A, B, R, Q) := by
  show ∃ n2 : Nat, wX_leastFreeNumber_2 post n V W K A B R Q n2 0
  refine loop_0 (fun f i (_ : Unit) => wX_leastFreeNumber_2 post n V W K A B R Q f (nI i)) (fun i _ => ∀ j, j < i → bt V j = true) 20 () (fun r z => absurd z (by omega)) (fun f s hs => ?_) (fun f i s hi hs hk => ?_)
  · exact br_t (show (20 : Int32) ≤ nI 20 by decide) (h2 hs)
  · refine br_f (nI_ge (b := 20) hi (by decide)) (xc_cn (by omega) (fun g => br_f (by decide) (fun y ey => ?_)) (fun g => br_t rfl (h1 i hi g hs)))
    subst ey
    rw [nI_1]
    exact hk () (lt_s hs g)
theorem yc_mk {w V kd : Int32} {r : Nat} {he Ky ey as bs Ry Q : Nat → Int32} {post : Int32 → SY → Prop} (hr : r < 4) (hh : ∀ o, o < 20 → he o = if bt V o = true then 1 else 0)
    (h1 : ∀ o, o < 20 → ¬ bt V o = true → (∀ j, j < o → bt V j = true) → post (nI o) (w, upd he o 1, upd Ky o kd, upd ey o 0, upd as o 0, upd bs o 0, upd Ry r (nI o + 1), Q))
    (h2 : (∀ j, j < 20 → bt V j = true) → post (-2) (w, he, Ky, ey, as, bs, Ry, Q)) : ∃ n22 : Nat, wY_make_22 post kd (nI r) w he Ky ey as bs Ry Q n22 0 := by
  refine loop_0 (fun f i (_ : Unit) => wY_make_22 post kd (nI r) w he Ky ey as bs Ry Q f (nI i)) (fun i _ => ∀ j, j < i → bt V j = true) 20 () (fun r z => absurd z (by omega)) (fun f s hs => ?_) (fun f i s hi hs hk => ?_)
  · exact br_t (show (20 : Int32) ≤ nI 20 by decide) (h2 hs)
  · have hv : vp_in (nI i) 20 := vp_in_nI hi (by decide)
    refine br_f (nI_ge (b := 20) hi (by decide)) ⟨hv, ?_⟩
    rw [nI_clamp (show i < 2 ^ 31 by omega), hh i hi]
    by_cases g : bt V i = true
    · rw [if_pos g]
      refine br_f (by decide) (fun y ey => ?_)
      subst ey
      rw [nI_1]
      exact hk () (lt_s hs g)
    · rw [if_neg g]
      refine br_t rfl ⟨hv, fun a1 e1 => ⟨hv, fun a2 e2 => ⟨hv, fun a3 e3 => ⟨hv, fun a4 e4 => ⟨hv, fun a5 e5 => ⟨vp_in_nI hr (by decide), fun a6 e6 => ?_⟩⟩⟩⟩⟩⟩
      subst e1 e2 e3 e4 e5 e6
      rw [nI_clamp (show r < 2 ^ 31 by omega), eh_nb1, eh_nb0]
      exact h1 i hi g hs
theorem xc_rt {r : Nat} {post : Int32 → Prop} (hr : r < 4) (h : post 1) : wpX_isRoot post (nI r) := br_f (eh_r3 r hr).1 (br_f (eh_r3 r hr).2.1 h)
theorem xc_rl {x : Int32} {post : Int32 → Prop} (hx : x < 0) (h : post 0) : wpX_isRoot post x := br_t hx h
theorem xc_rh {x : Int32} {post : Int32 → Prop} (hx : ¬ x < 0) (h4 : 4 ≤ x) (h : post 0) : wpX_isRoot post x := br_f hx (br_t h4 h)
theorem xc_kt {r : Nat} {post : Int32 → Prop} (hr : r < 3) (h : post 1) : wpX_isKind post (nI r) := br_f (eh_k3 r hr).1 (br_f (eh_k3 r hr).2.1 h)
theorem xc_kl {x : Int32} {post : Int32 → Prop} (hx : x < 0) (h : post 0) : wpX_isKind post x := br_t hx h
theorem xc_kh {x : Int32} {post : Int32 → Prop} (hx : ¬ x < 0) (h4 : 2 < x) (h : post 0) : wpX_isKind post x := br_f hx (br_t h4 h)
/-- the queue moved up below m -/
def eh_sh (Q : Nat → Int32) (m : Nat) : Nat → Int32 := fun j => if j + 1 < m then Q (j + 1) else Q j
theorem eh_sh1 (Q : Nat → Int32) : eh_sh Q 1 = Q := by
  funext j
  exact if_neg (by omega)
theorem eh_shs (Q : Nat → Int32) (i : Nat) : upd (eh_sh Q (i + 1)) i (eh_sh Q (i + 1) (i + 1)) = eh_sh Q (i + 1 + 1) := by
  have e1 : eh_sh Q (i + 1) (i + 1) = Q (i + 1) := if_neg (by omega)
  funext j
  rw [e1]
  by_cases e : j = i
  · rw [e, pk_us]
    exact (if_pos (by omega)).symm
  · rw [pk_un e]
    unfold eh_sh
    by_cases h : j + 1 < i + 1
    · rw [if_pos h, if_pos (by omega)]
    · rw [if_neg h, if_neg (by omega)]
theorem xc_tk {m r : Nat} {V W : Int32} {K A B R Q : Nat → Int32} {post : Int32 → SX → Prop} (hm : m + 1 ≤ 20) (hr : r < 4) (h : post (Q 0) (nI m, V, W, K, A, B, upd R r (Q 0), eh_sh Q (m + 1))) :
    ∃ n25 : Nat, wX_take_25 post (nI r) (Q 0) (nI (m + 1)) V W n25 1 K A B R Q := by
  have key : ∃ n25 : Nat, wX_take_25 post (nI r) (Q 0) (nI (m + 1)) V W n25 (nI (0 + 1)) K A B R (eh_sh Q (0 + 1)) := by
    refine loop_0 (fun f i (_ : Unit) => wX_take_25 post (nI r) (Q 0) (nI (m + 1)) V W f (nI (i + 1)) K A B R (eh_sh Q (i + 1))) (fun _ _ => True) m () trivial (fun f s _ => ?_) (fun f i s hi _ hk => ?_)
    · refine br_t (nI_le (Nat.le_refl _) (by omega)) (fun y ey => ⟨vp_in_nI hr (by decide), fun z ez => ?_⟩)
      subst ey ez
      rw [nI_pred, nI_clamp (by omega)]
      exact h
    · refine br_f (nI_ge (by omega) (by omega)) ⟨vp_in_nI (by omega) (by decide), ?_⟩
      rw [nI_pred, nI_clamp (show i < 2 ^ 31 by omega), nI_clamp (show i + 1 < 2 ^ 31 by omega)]
      refine ⟨vp_in_nI (by omega) (by decide), fun y ey z ez => ?_⟩
      subst ey ez
      rw [nI_1, eh_shs]
      exact hk () trivial
  rw [eh_sh1] at key
  exact key
theorem yc_tk {m r : Nat} {he Ky ey as bs Ry Q : Nat → Int32} {post : Int32 → SY → Prop} (hm : m + 1 ≤ 20) (hr : r < 4) (h : post (Q 0) (nI m, he, Ky, ey, as, bs, upd Ry r (Q 0 + 1), eh_sh Q (m + 1))) :
    ∃ n37 : Nat, wY_take_37 post (nI r) (Q 0) (nI m) n37 0 he Ky ey as bs Ry Q := by
  have key : ∃ n37 : Nat, wY_take_37 post (nI r) (Q 0) (nI m) n37 (nI 0) he Ky ey as bs Ry (eh_sh Q (0 + 1)) := by
    refine loop_0 (fun f i (_ : Unit) => wY_take_37 post (nI r) (Q 0) (nI m) f (nI i) he Ky ey as bs Ry (eh_sh Q (i + 1))) (fun _ _ => True) m () trivial (fun f s _ => ?_) (fun f i s hi _ hk => ?_)
    · refine br_t (nI_le (Nat.le_refl _) (by omega)) ⟨vp_in_nI hr (by decide), fun z ez => ?_⟩
      subst ez
      rw [nI_clamp (by omega)]
      exact h
    · refine br_f (nI_ge hi (by omega)) ?_
      rw [nI_1, nI_clamp (show i < 2 ^ 31 by omega), nI_clamp (show i + 1 < 2 ^ 31 by omega)]
      refine ⟨vp_in_nI (by omega) (by decide), vp_in_nI (by omega) (by decide), fun y ey z ez => ?_⟩
      subst ey ez
      rw [eh_shs]
      exact hk () trivial
  rw [eh_sh1] at key
  exact key
theorem yc_obj {w V : Int32} {he Ky ey as bs Ry Q : Nat → Int32} {post : Int32 → Prop} (hh : ∀ o, o < 20 → he o = if bt V o = true then 1 else 0) (h : post (nI (eh_cn (bt V) 20))) : wpY_objects post (w, he, Ky, ey, as, bs, Ry, Q) := by
  show ∃ n4 : Nat, wY_objects_4 post w he Ky ey as bs Ry Q n4 0 0
  refine loop_0 (fun n i s => wY_objects_4 post w he Ky ey as bs Ry Q n s (nI i)) (fun i s => s = nI (eh_cn (bt V) i)) 20 0 rfl (fun n s hs => ?_) (fun n i s hi hs hk => ?_)
  · exact br_t (show (20 : Int32) ≤ nI 20 by decide) (by rw [hs]; exact h)
  · have hv : vp_in (nI i) 20 := vp_in_nI hi (by decide)
    refine br_f (nI_ge (b := 20) hi (by decide)) ⟨hv, ?_⟩
    rw [nI_clamp (show i < 2 ^ 31 by omega), hh i hi]
    by_cases g : bt V i = true
    · rw [if_pos g]
      refine br_f (by decide) (fun y ey z ez => ?_)
      subst ey ez
      rw [nI_1 i]
      refine hk _ ?_
      show s + 1 = nI (eh_cn (bt V) i + (if bt V i = true then 1 else 0))
      rw [hs, if_pos g, nI_1]
    · rw [if_neg g]
      refine br_t rfl (fun z ez => ?_)
      subst ez
      rw [nI_1 i]
      refine hk _ ?_
      show s = nI (eh_cn (bt V) i + (if bt V i = true then 1 else 0))
      rw [hs, if_neg g]
      rfl
/-- s has the members of T below i -/
def eh_U (T : Int32) (i : Nat) (s : Int32) : Prop := ∀ p, bt s p = true ↔ p < i ∧ bt T p = true
theorem eh_U0 (T : Int32) : eh_U T 0 0 := fun p => by
  rw [b_0]
  exact ⟨fun z => absurd z (by decide), fun z => absurd z.1 (by omega)⟩
theorem eh_Us {T s : Int32} {i : Nat} (h : eh_U T i s) (hi : i < 32) (g : bt T i = true) : eh_U T (i + 1) (s ||| ((1 : Int32) <<< (nI i &&& 31))) := by
  intro p
  rw [eh_bor hi, h p]
  constructor
  · rintro (⟨a, b⟩ | a)
    · exact ⟨by omega, b⟩
    · rw [a]; exact ⟨by omega, g⟩
  · rintro ⟨a, b⟩
    by_cases e : p = i
    · exact Or.inr e
    · exact Or.inl ⟨by omega, b⟩
theorem eh_Un {T s : Int32} {i : Nat} (h : eh_U T i s) (g : ¬ bt T i = true) : eh_U T (i + 1) s := by
  intro p
  rw [h p]
  constructor
  · rintro ⟨a, b⟩; exact ⟨by omega, b⟩
  · rintro ⟨a, b⟩
    have : p ≠ i := fun e => g (by rw [← e]; exact b)
    exact ⟨by omega, b⟩
theorem eh_Ue {T s : Int32} (h : eh_U T 20 s) (hT : ∀ i, bt T i = true → i < 20) : s = T :=
  eh_anti (fun i z => ((h i).mp z).2) (fun i z => (h i).mpr ⟨hT i z, z⟩)
theorem yc_there {w V : Int32} {he Ky ey as bs Ry Q : Nat → Int32} {post : Int32 → Prop} (hh : ∀ o, o < 20 → he o = if bt V o = true then 1 else 0) (hV : ∀ i, bt V i = true → i < 20) (h : post V) : wpY_there post (w, he, Ky, ey, as, bs, Ry, Q) := by
  show ∃ n4 : Nat, wY_there_4 post w he Ky ey as bs Ry Q n4 0 0
  refine loop_0 (fun n i s => wY_there_4 post w he Ky ey as bs Ry Q n s (nI i)) (fun i s => eh_U V i s) 20 0 (eh_U0 V) (fun n s hs => ?_) (fun n i s hi hs hk => ?_)
  · exact br_t (show (20 : Int32) ≤ nI 20 by decide) (by rw [eh_Ue hs hV]; exact h)
  · have hv : vp_in (nI i) 20 := vp_in_nI hi (by decide)
    refine br_f (nI_ge (b := 20) hi (by decide)) ⟨hv, ?_⟩
    rw [nI_clamp (show i < 2 ^ 31 by omega), hh i hi]
    by_cases g : bt V i = true
    · rw [if_pos g]
      refine br_f (by decide) (fun y ey z ez => ?_)
      subst ey ez
      rw [nI_1 i]
      exact hk _ (eh_Us hs (by omega) g)
    · rw [if_neg g]
      refine br_t rfl (fun z ez => ?_)
      subst ez
      rw [nI_1 i]
      exact hk _ (eh_Un hs g)
theorem yc_watched {w V W : Int32} {he Ky ey as bs Ry Q : Nat → Int32} {post : Int32 → Prop} (hh : ∀ o, o < 20 → he o = if bt V o = true then 1 else 0) (hV : ∀ i, bt V i = true → i < 20) (hW : eh_sub W V)
    (hE : ∀ o, bt V o = true → ey o = if bt W o = true then 1 else 0) (h : post W) : wpY_watched post (w, he, Ky, ey, as, bs, Ry, Q) := by
  show ∃ n4 : Nat, wY_watched_4 post w he Ky ey as bs Ry Q n4 0 0
  refine loop_0 (fun n i s => wY_watched_4 post w he Ky ey as bs Ry Q n s (nI i)) (fun i s => eh_U W i s) 20 0 (eh_U0 W) (fun n s hs => ?_) (fun n i s hi hs hk => ?_)
  · exact br_t (show (20 : Int32) ≤ nI 20 by decide) (by rw [eh_Ue hs (fun i z => hV i (hW i z))]; exact h)
  · have hv : vp_in (nI i) 20 := vp_in_nI hi (by decide)
    refine br_f (nI_ge (b := 20) hi (by decide)) ⟨hv, ?_⟩
    rw [nI_clamp (show i < 2 ^ 31 by omega), hh i hi]
    by_cases g : bt V i = true
    · rw [if_pos g, hE i g]
      refine br_f (by decide) ⟨hv, ?_⟩
      by_cases g2 : bt W i = true
      · rw [if_pos g2]
        refine br_f (by decide) (fun y ey z ez => ?_)
        subst ey ez
        rw [nI_1 i]
        exact hk _ (eh_Us hs (by omega) g2)
      · rw [if_neg g2]
        refine br_t rfl (fun z ez => ?_)
        subst ez
        rw [nI_1 i]
        exact hk _ (eh_Un hs g2)
    · rw [if_neg g]
      refine br_t rfl (fun z ez => ?_)
      subst ez
      rw [nI_1 i]
      exact hk _ (eh_Un hs (fun z => g (hW i z)))
