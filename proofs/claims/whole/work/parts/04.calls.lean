/-! ===== what a call does to the relation ===== -/
def eh_Z (m : Nat) (V W : Int32) (K A B R Q he Ky ey as bs Ry : Nat → Int32) : Prop :=
  eh_X m V W K A B R Q ∧ eh_Y V W K A B R he Ky ey as bs Ry
theorem eh_Pm {V T x : Int32} (h : eh_sub V T) (g : eh_P V x) : eh_P T x :=
  eh_Pk g (fun j hj e => h j (eh_Pn g (by omega) e))
theorem eh_start {R : Nat → Int32} (hR : ∀ r, r < 4 → R r = -1) : eh_Z 0 0 0 (fun _ => 0) (fun _ => 0) (fun _ => 0) R (fun _ => 0) (fun _ => 0) (fun _ => 0) (fun _ => 0) (fun _ => 0) (fun _ => 0) (fun _ => 0) := by
  refine ⟨⟨fun i h => ?_, eh_sub_r _, fun o h => ?_, fun r hr => Or.inl (hR r hr), fun i h => absurd h (by omega), fun i _ h => absurd h (by omega)⟩, fun o _ => ?_, fun o h => ?_, fun r hr => ?_⟩
  · rw [b_0] at h; exact absurd h (by decide)
  · rw [b_0] at h; exact absurd h (by decide)
  · rw [b_0]; rfl
  · rw [b_0] at h; exact absurd h (by decide)
  · rw [hR r hr]; show (0 : Int32) = -1 + 1; decide
theorem eh_bor {V : Int32} {o i : Nat} (ho : o < 32) : bt (V ||| ((1 : Int32) <<< (nI o &&& 31))) i = true ↔ bt V i = true ∨ i = o := by
  constructor
  · intro h
    have hi := eh_lt h
    rw [b_or, Bool.or_eq_true, eh_bit ho hi, decide_eq_true_eq] at h
    exact h
  · rintro (h | h)
    · rw [b_or, h]; rfl
    · subst h
      rw [b_or, eh_bit ho ho, decide_eq_true rfl, Bool.or_true]
theorem eh_if {p q : Bool} (h : p = true ↔ q = true) : (if p = true then (1 : Int32) else 0) = if q = true then 1 else 0 := by
  have : p = q := Bool.eq_iff_iff.mpr h
  rw [this]
theorem eh_make {m : Nat} {V W : Int32} {K A B R Q he Ky ey as bs Ry : Nat → Int32} (h : eh_Z m V W K A B R Q he Ky ey as bs Ry) {o r : Nat} (ho : o < 20) (hn : ¬ bt V o = true) (hr : r < 4)
    {kd : Int32} (hk : kd = 0 ∨ kd = 1 ∨ kd = 2) :
    eh_Z m (V ||| ((1 : Int32) <<< (nI o &&& 31))) W (upd K o kd) (upd A o (-1)) (upd B o (-1)) (upd R r (nI o)) Q (upd he o 1) (upd Ky o kd) (upd ey o 0) (upd as o 0) (upd bs o 0) (upd Ry r (nI o + 1)) := by
  obtain ⟨⟨x1, x2, x3, x4, x5, x6⟩, y1, y2, y3⟩ := h
  have hb : ∀ i, bt (V ||| ((1 : Int32) <<< (nI o &&& 31))) i = true ↔ bt V i = true ∨ i = o := fun i => eh_bor (by omega)
  have hs : eh_sub V (V ||| ((1 : Int32) <<< (nI o &&& 31))) := fun i hi => (hb i).mpr (Or.inl hi)
  refine ⟨⟨fun i g => ?_, fun i g => hs i (x2 i g), fun i g => ?_, fun i hi => ?_, fun i hi => ?_, x6⟩, fun i hi => ?_, fun i g => ?_, fun i hi => ?_⟩
  · rcases (hb i).mp g with g | g
    · exact x1 i g
    · omega
  · by_cases e : i = o
    · subst e
      rw [pk_us, pk_us, pk_us]
      exact ⟨hk, Or.inl rfl, Or.inl rfl⟩
    · rw [pk_un e, pk_un e, pk_un e]
      obtain ⟨a, b, c⟩ := x3 i (((hb i).mp g).resolve_right e)
      exact ⟨a, eh_Pm hs b, eh_Pm hs c⟩
  · by_cases e : i = r
    · subst e
      rw [pk_us]
      exact Or.inr ⟨o, ho, (hb o).mpr (Or.inr rfl), rfl⟩
    · rw [pk_un e]; exact eh_Pm hs (x4 i hi)
  · obtain ⟨j, a, b, c⟩ := x5 i hi
    exact ⟨j, a, hs j b, c⟩
  · by_cases e : i = o
    · subst e
      rw [pk_us, if_pos ((hb i).mpr (Or.inr rfl))]
    · rw [pk_un e, y1 i hi]
      exact eh_if ⟨fun g => (hb i).mpr (Or.inl g), fun g => ((hb i).mp g).resolve_right e⟩
  · by_cases e : i = o
    · subst e
      rw [pk_us, pk_us, pk_us, pk_us, pk_us, pk_us, pk_us, if_neg (fun z => hn (x2 i z))]
      exact ⟨rfl, by decide, by decide, rfl⟩
    · rw [pk_un e, pk_un e, pk_un e, pk_un e, pk_un e, pk_un e, pk_un e]
      exact y2 i (((hb i).mp g).resolve_right e)
  · by_cases e : i = r
    · subst e
      rw [pk_us, pk_us]
    · rw [pk_un e, pk_un e]; exact y3 i hi
theorem eh_updid (f : Nat → Int32) (k : Nat) : upd f k (f k) = f := by
  funext j
  by_cases e : j = k
  · rw [e, pk_us]
  · rw [pk_un e]
theorem eh_pointA {m : Nat} {V W : Int32} {K A B R Q he Ky ey as bs Ry : Nat → Int32} (h : eh_Z m V W K A B R Q he Ky ey as bs Ry) {o : Nat} {p : Int32} (hp : eh_P V p) :
    eh_Z m V W K (upd A o p) B R Q he Ky ey (upd as o (p + 1)) bs Ry := by
  obtain ⟨⟨x1, x2, x3, x4, x5, x6⟩, y1, y2, y3⟩ := h
  refine ⟨⟨x1, x2, fun i g => ?_, x4, x5, x6⟩, y1, fun i g => ?_, y3⟩
  · obtain ⟨a, b, c⟩ := x3 i g
    by_cases e : i = o
    · subst e; rw [pk_us]; exact ⟨a, hp, c⟩
    · rw [pk_un e]; exact ⟨a, b, c⟩
  · obtain ⟨a, b, c, d⟩ := y2 i g
    by_cases e : i = o
    · subst e; rw [pk_us, pk_us]; exact ⟨a, rfl, c, d⟩
    · rw [pk_un e, pk_un e]; exact ⟨a, b, c, d⟩
theorem eh_pointB {m : Nat} {V W : Int32} {K A B R Q he Ky ey as bs Ry : Nat → Int32} (h : eh_Z m V W K A B R Q he Ky ey as bs Ry) {o : Nat} {p : Int32} (hp : eh_P V p) :
    eh_Z m V W K A (upd B o p) R Q he Ky ey as (upd bs o (p + 1)) Ry := by
  obtain ⟨⟨x1, x2, x3, x4, x5, x6⟩, y1, y2, y3⟩ := h
  refine ⟨⟨x1, x2, fun i g => ?_, x4, x5, x6⟩, y1, fun i g => ?_, y3⟩
  · obtain ⟨a, b, c⟩ := x3 i g
    by_cases e : i = o
    · subst e; rw [pk_us]; exact ⟨a, b, hp⟩
    · rw [pk_un e]; exact ⟨a, b, c⟩
  · obtain ⟨a, b, c, d⟩ := y2 i g
    by_cases e : i = o
    · subst e; rw [pk_us, pk_us]; exact ⟨a, b, rfl, d⟩
    · rw [pk_un e, pk_un e]; exact ⟨a, b, c, d⟩
theorem eh_root {m : Nat} {V W : Int32} {K A B R Q he Ky ey as bs Ry : Nat → Int32} (h : eh_Z m V W K A B R Q he Ky ey as bs Ry) {r : Nat} {p : Int32} (hp : eh_P V p) :
    eh_Z m V W K A B (upd R r p) Q he Ky ey as bs (upd Ry r (p + 1)) := by
  obtain ⟨⟨x1, x2, x3, x4, x5, x6⟩, y1, y2, y3⟩ := h
  refine ⟨⟨x1, x2, x3, fun i hi => ?_, x5, x6⟩, y1, y2, fun i hi => ?_⟩
  · by_cases e : i = r
    · subst e; rw [pk_us]; exact hp
    · rw [pk_un e]; exact x4 i hi
  · by_cases e : i = r
    · subst e; rw [pk_us, pk_us]
    · rw [pk_un e, pk_un e]; exact y3 i hi
theorem eh_watch {m : Nat} {V W : Int32} {K A B R Q he Ky ey as bs Ry : Nat → Int32} (h : eh_Z m V W K A B R Q he Ky ey as bs Ry) {o : Nat} (ho : bt V o = true) :
    eh_Z m V (W ||| ((1 : Int32) <<< (nI o &&& 31))) K A B R Q he Ky (upd ey o 1) as bs Ry := by
  obtain ⟨⟨x1, x2, x3, x4, x5, x6⟩, y1, y2, y3⟩ := h
  have hb : ∀ i, bt (W ||| ((1 : Int32) <<< (nI o &&& 31))) i = true ↔ bt W i = true ∨ i = o := fun i => eh_bor (eh_lt ho)
  refine ⟨⟨x1, fun i g => ?_, x3, x4, x5, x6⟩, y1, fun i g => ?_, y3⟩
  · rcases (hb i).mp g with g | g
    · exact x2 i g
    · subst g; exact ho
  · obtain ⟨a, b, c, d⟩ := y2 i g
    refine ⟨a, b, c, ?_⟩
    by_cases e : i = o
    · subst e; rw [pk_us, if_pos ((hb i).mpr (Or.inr rfl))]
    · rw [pk_un e, d]
      exact eh_if ⟨fun g => (hb i).mpr (Or.inl g), fun g => ((hb i).mp g).resolve_right e⟩
theorem eh_take {m : Nat} {V W : Int32} {K A B R Q he Ky ey as bs Ry : Nat → Int32} (h : eh_Z (m + 1) V W K A B R Q he Ky ey as bs Ry) {r : Nat} {Q' : Nat → Int32} (hQ : ∀ i, i < m → Q' i = Q (i + 1)) :
    eh_Z m V W K A B (upd R r (Q 0)) Q' he Ky ey as bs (upd Ry r (Q 0 + 1)) := by
  have hp : eh_P V (Q 0) := by
    obtain ⟨j, a, b, c⟩ := h.1.2.2.2.2.1 0 (by omega)
    exact Or.inr ⟨j, a, b, c⟩
  have h2 := eh_root h (r := r) hp
  obtain ⟨⟨x1, x2, x3, x4, x5, x6⟩, y⟩ := h2
  refine ⟨⟨x1, x2, x3, x4, fun i hi => ?_, fun i j hi hj e => ?_⟩, y⟩
  · rw [hQ i hi]; exact x5 (i + 1) (by omega)
  · rw [hQ i hi, hQ j hj] at e
    have := x6 (i + 1) (j + 1) (by omega) (by omega) e
    omega
