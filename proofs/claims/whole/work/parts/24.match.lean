/-! matchings of judges (0 .. 7) with cases: h j is j's case, or -1 -/
def mV (E : Int → Int → Bool) (D : Int → Prop) (h : Int → Int) : Prop := (∀ j : Int, 0 ≤ j → j < 8 → h j = -1 ∨ (0 ≤ h j ∧ h j < 8 ∧ D (h j) ∧ E j (h j) = true)) ∧ (∀ j j' : Int, 0 ≤ j → j < 8 → 0 ≤ j' → j' < 8 → h j = h j' → h j ≠ -1 → j = j')
def mD (h : Int → Int) (c : Int) : Prop := ∃ j : Int, 0 ≤ j ∧ j < 8 ∧ h j = c
def mCl (E : Int → Int → Bool) (h : Int → Int) (X : Int → Prop) : Prop := ∀ c j : Int, X c → 0 ≤ j → j < 8 → E j c = true → h j ≠ -1 ∧ X (h j)
def mC (E : Int → Int → Bool) (D : Int → Prop) (h : Int → Int) (X : Int → Prop) : Prop := (∀ c : Int, 0 ≤ c → c < 8 → D c → ¬ mD h c → X c) ∧ mCl E h X
def mN (h : Int → Int) : Int := pcn (fun j => decide (h j ≠ -1)) 8
noncomputable def bP (p : Prop) : Bool := @decide p (Classical.propDecidable p)
theorem bP_t {p : Prop} : bP p = true ↔ p := by
  unfold bP
  exact @decide_eq_true_iff p (Classical.propDecidable p)
def rg8 : List Int := [0, 1, 2, 3, 4, 5, 6, 7]
theorem rg8_mem {x : Int} : x ∈ rg8 ↔ 0 ≤ x ∧ x < 8 := by
  unfold rg8
  simp only [List.mem_cons, List.not_mem_nil, or_false]
  omega
theorem rg8_nod : rg8.Nodup := by decide
theorem pcn_len (f : Int → Bool) : pcn f 8 = ((rg8.filter f).length : Int) := by
  have h : ∀ (l : List Int), ((l.filter f).length : Int) = (l.map (fun x => if f x = true then (1 : Int) else 0)).sum := by
    intro l
    induction l with
    | nil => rfl
    | cons a l ih =>
      rw [List.map_cons, List.sum_cons, ← ih]
      by_cases g : f a = true
      · rw [List.filter_cons_of_pos g, if_pos g, List.length_cons]; omega
      · rw [List.filter_cons_of_neg g, if_neg g]; omega
  rw [h]
  simp only [rg8, List.map_cons, List.map_nil, List.sum_cons, List.sum_nil, pcn]
  simp only [show ((0 : Nat) : Int) = 0 from rfl, show ((1 : Nat) : Int) = 1 from rfl, show ((2 : Nat) : Int) = 2 from rfl, show ((3 : Nat) : Int) = 3 from rfl, show ((4 : Nat) : Int) = 4 from rfl, show ((5 : Nat) : Int) = 5 from rfl, show ((6 : Nat) : Int) = 6 from rfl, show ((7 : Nat) : Int) = 7 from rfl]
  omega
theorem nod_map {f : Int → Int} : ∀ {l : List Int}, l.Nodup → (∀ x ∈ l, ∀ y ∈ l, f x = f y → x = y) → (l.map f).Nodup := by
  intro l
  induction l with
  | nil => intro _ _; exact List.nodup_nil
  | cons a l ih =>
    intro hn hi
    rw [List.nodup_cons] at hn
    rw [List.map_cons, List.nodup_cons]
    refine ⟨fun g => ?_, ih hn.2 (fun x hx y hy => hi x (List.mem_cons_of_mem _ hx) y (List.mem_cons_of_mem _ hy))⟩
    obtain ⟨b, hb, he⟩ := List.mem_map.mp g
    have := hi b (List.mem_cons_of_mem _ hb) a List.mem_cons_self he
    rw [this] at hb
    exact hn.1 hb
theorem nod_flt {α : Type} {P : α → Bool} {l : List α} (h : l.Nodup) : (l.filter P).Nodup := h.sublist List.filter_sublist
theorem pcn_inj {P R : Int → Bool} {f : Int → Int} (h1 : ∀ x : Int, 0 ≤ x → x < 8 → P x = true → 0 ≤ f x ∧ f x < 8 ∧ R (f x) = true) (h2 : ∀ x y : Int, 0 ≤ x → x < 8 → 0 ≤ y → y < 8 → P x = true → P y = true → f x = f y → x = y) : pcn P 8 ≤ pcn R 8 := by
  rw [pcn_len, pcn_len]
  have hm : ((rg8.filter P).map f).Nodup := by
    refine nod_map (nod_flt rg8_nod) (fun x hx y hy e => ?_)
    rw [List.mem_filter, rg8_mem] at hx hy
    exact h2 x y hx.1.1 hx.1.2 hy.1.1 hy.1.2 hx.2 hy.2 e
  have := nod_len (B := rg8.filter R) hm (fun z hz => by
    obtain ⟨x, hx, rfl⟩ := List.mem_map.mp hz
    rw [List.mem_filter, rg8_mem] at hx
    obtain ⟨a, b, c⟩ := h1 x hx.1.1 hx.1.2 hx.2
    rw [List.mem_filter, rg8_mem]
    exact ⟨⟨a, b⟩, c⟩)
  rw [List.length_map] at this
  omega
theorem pcn_split (P R : Int → Bool) (n : Nat) : pcn P n = pcn (fun x => P x && R x) n + pcn (fun x => P x && !R x) n := by
  induction n with
  | zero => rfl
  | succ n ih =>
    unfold pcn
    rw [ih]
    cases P n <;> cases R n <;> simp <;> omega
theorem cert_max {E : Int → Int → Bool} {D : Int → Prop} {h h' : Int → Int} {X : Int → Prop} (hv : mV E D h) (hc : mC E D h X) (hv' : mV E D h') : mN h' ≤ mN h := by
  unfold mN
  rw [pcn_split _ (fun j => bP (X (h' j))), pcn_split (fun j => decide (h j ≠ -1)) (fun j => bP (X (h j)))]
  have a1 : pcn (fun j => decide (h' j ≠ -1) && bP (X (h' j))) 8 ≤ pcn (fun j => decide (h j ≠ -1) && bP (X (h j))) 8 := by
    refine pcn_inj (f := id) (fun x g1 g2 g3 => ⟨g1, g2, ?_⟩) (fun x y _ _ _ _ _ _ e => e)
    rw [Bool.and_eq_true, decide_eq_true_eq, bP_t] at g3 ⊢
    rcases hv'.1 x g1 g2 with g | ⟨_, _, _, g⟩
    · exact absurd g g3.1
    · exact hc.2 _ x g3.2 g1 g2 g
  have a2 : pcn (fun j => decide (h' j ≠ -1) && !bP (X (h' j))) 8 ≤ pcn (fun c => bP (D c ∧ ¬ X c)) 8 := by
    refine pcn_inj (f := h') (fun x g1 g2 g3 => ?_) (fun x y g1 g2 g3 g4 g5 _ e => ?_)
    · simp only [Bool.and_eq_true, decide_eq_true_eq, Bool.not_eq_true'] at g3
      rcases hv'.1 x g1 g2 with g | ⟨g4, g5, g6, _⟩
      · exact absurd g g3.1
      · refine ⟨g4, g5, bP_t.mpr ⟨g6, fun hx => ?_⟩⟩
        rw [bP_t.mpr hx] at g3
        cases g3.2
    · simp only [Bool.and_eq_true, decide_eq_true_eq] at g5
      exact hv'.2 x y g1 g2 g3 g4 e g5.1
  have a3 : pcn (fun c => bP (D c ∧ ¬ X c)) 8 ≤ pcn (fun j => decide (h j ≠ -1) && !bP (X (h j))) 8 := by
    have hex : ∀ c : Int, ∃ j : Int, 0 ≤ c → c < 8 → D c ∧ ¬ X c → 0 ≤ j ∧ j < 8 ∧ h j = c := by
      intro c
      by_cases g : 0 ≤ c ∧ c < 8 ∧ D c ∧ ¬ X c
      · have : mD h c := Classical.byContradiction fun hn => g.2.2.2 (hc.1 c g.1 g.2.1 g.2.2.1 hn)
        obtain ⟨j, hj⟩ := this
        exact ⟨j, fun _ _ _ => hj⟩
      · exact ⟨0, fun g1 g2 g3 => absurd ⟨g1, g2, g3⟩ g⟩
    refine pcn_inj (f := fun c => Classical.choose (hex c)) (fun c g1 g2 g3 => ?_) (fun x y g1 g2 g3 g4 g5 g6 e => ?_)
    · obtain ⟨b1, b2, b3⟩ := Classical.choose_spec (hex c) g1 g2 (bP_t.mp g3)
      refine ⟨b1, b2, ?_⟩
      simp only [Bool.and_eq_true, decide_eq_true_eq, Bool.not_eq_true', b3]
      refine ⟨by omega, ?_⟩
      cases hb : bP (X c) with
      | false => rfl
      | true => exact absurd (bP_t.mp hb) (bP_t.mp g3).2
    · obtain ⟨_, _, b3⟩ := Classical.choose_spec (hex x) g1 g2 (bP_t.mp g5)
      obtain ⟨_, _, b6⟩ := Classical.choose_spec (hex y) g3 g4 (bP_t.mp g6)
      rw [← b3, ← b6, e]
  omega
/-- how many are matched, told by cases -/
theorem mN_cases {E : Int → Int → Bool} {D : Int → Prop} {h : Int → Int} (hv : mV E D h) : mN h = pcn (fun c => bP (mD h c)) 8 := by
  refine Int.le_antisymm ?_ ?_
  · refine pcn_inj (f := h) (fun x g1 g2 g3 => ?_) (fun x y g1 g2 g3 g4 g5 _ e => ?_)
    · rw [decide_eq_true_eq] at g3
      rcases hv.1 x g1 g2 with g | ⟨g4, g5, _⟩
      · exact absurd g g3
      · exact ⟨g4, g5, bP_t.mpr ⟨x, g1, g2, rfl⟩⟩
    · rw [decide_eq_true_eq] at g5
      exact hv.2 x y g1 g2 g3 g4 e g5
  · have hex : ∀ c : Int, ∃ j : Int, mD h c → 0 ≤ j ∧ j < 8 ∧ h j = c := by
      intro c
      by_cases g : mD h c
      · obtain ⟨j, hj⟩ := g
        exact ⟨j, fun _ => hj⟩
      · exact ⟨0, fun g1 => absurd g1 g⟩
    refine pcn_inj (f := fun c => Classical.choose (hex c)) (fun c g1 g2 g3 => ?_) (fun x y g1 g2 g3 g4 g5 g6 e => ?_)
    · obtain ⟨b1, b2, b3⟩ := Classical.choose_spec (hex c) (bP_t.mp g3)
      refine ⟨b1, b2, ?_⟩
      rw [decide_eq_true_eq, b3]
      omega
    · obtain ⟨_, _, b3⟩ := Classical.choose_spec (hex x) (bP_t.mp g5)
      obtain ⟨_, _, b6⟩ := Classical.choose_spec (hex y) (bP_t.mp g6)
      rw [← b3, ← b6, e]
/-- one case more is matched; what is held in X stays -/
def mAug (E : Int → Int → Bool) (D : Int → Prop) (c : Int) (h : Int → Int) (X : Int → Prop) (h' : Int → Int) : Prop := mV E (fun x => D x ∨ x = c) h' ∧ (∀ x : Int, 0 ≤ x → (mD h' x ↔ mD h x ∨ x = c)) ∧ ∀ j : Int, 0 ≤ j → j < 8 → h j ≠ -1 → X (h j) → h' j = h j
theorem mAug_N {E : Int → Int → Bool} {D : Int → Prop} {c : Int} {h h' : Int → Int} {X : Int → Prop} (hv : mV E D h) (hc : 0 ≤ c ∧ c < 8) (hn : ¬ mD h c) (ha : mAug E D c h X h') : mN h' = mN h + 1 := by
  rw [mN_cases hv, mN_cases ha.1]
  refine pcn_add (k := c) hc ?_ (fun x g1 g2 => ?_)
  · cases hb : bP (mD h c) with
    | false => rfl
    | true => exact absurd (bP_t.mp hb) hn
  · have e := ha.2.1 x g1
    cases hb : bP (mD h' x) with
    | true =>
      rcases e.mp (bP_t.mp hb) with g | g
      · rw [bP_t.mpr g]; rfl
      · simp [g]
    | false =>
      have : ¬ (mD h x ∨ x = c) := fun g => by rw [bP_t.mpr (e.mpr g)] at hb; cases hb
      have h1 : bP (mD h x) = false := by
        cases hq : bP (mD h x) with
        | false => rfl
        | true => exact absurd (Or.inl (bP_t.mp hq)) this
      rw [h1]
      simp
      exact fun g => this (Or.inr g)
theorem mAug_C {E : Int → Int → Bool} {D : Int → Prop} {c : Int} {h h' : Int → Int} {X : Int → Prop} (hC : mC E D h X) (ha : mAug E D c h X h') : mC E (fun x => D x ∨ x = c) h' X := by
  refine ⟨fun x g1 g2 g3 g4 => ?_, fun x j g1 g2 g3 g4 => ?_⟩
  · have e := ha.2.1 x g1
    rcases g3 with g | g
    · exact hC.1 x g1 g2 g (fun hm => g4 (e.mpr (Or.inl hm)))
    · exact absurd (e.mpr (Or.inr g)) g4
  · obtain ⟨b1, b2⟩ := hC.2 x j g1 g2 g3 g4
    rw [ha.2.2 j g2 g3 b1 b2]
    exact ⟨b1, b2⟩
/-- it can't be had -/
theorem mFail_C {E : Int → Int → Bool} {D : Int → Prop} {c : Int} {h : Int → Int} {X X0 : Int → Prop} (hC : mC E D h X) (h0 : X0 c) (hcl : mCl E h X0) : mC E (fun x => D x ∨ x = c) h (fun x => X x ∨ X0 x) := by
  refine ⟨fun x g1 g2 g3 g4 => ?_, fun x j g1 g2 g3 g4 => ?_⟩
  · rcases g3 with g | g
    · exact Or.inl (hC.1 x g1 g2 g g4)
    · rw [g]; exact Or.inr h0
  · rcases g1 with g | g
    · have := hC.2 x j g g2 g3 g4; exact ⟨this.1, Or.inl this.2⟩
    · have := hcl x j g g2 g3 g4; exact ⟨this.1, Or.inr this.2⟩
theorem mV_w {E : Int → Int → Bool} {D D' : Int → Prop} {h : Int → Int} (hv : mV E D h) (hD : ∀ x, D x → D' x) : mV E D' h := ⟨fun j g1 g2 => (hv.1 j g1 g2).imp id (fun g => ⟨g.1, g.2.1, hD _ g.2.2.1, g.2.2.2⟩), hv.2⟩
/-! paths -/
def flp (h : Int → Int) : Int → List Int → Int → Int
  | _, [] => h
  | c, j :: p => fun x => if x = j then c else flp h (h j) p x
def pth (E : Int → Int → Bool) (h : Int → Int) : Int → List Int → Prop
  | _, [] => False
  | c, j :: p => (0 ≤ j ∧ j < 8) ∧ E j c = true ∧ ((p = [] ∧ h j = -1) ∨ (h j ≠ -1 ∧ pth E h (h j) p))
theorem flp_out {h : Int → Int} : ∀ {p : List Int} {c x : Int}, x ∉ p → flp h c p x = h x := by
  intro p
  induction p with
  | nil => intro c x _; rfl
  | cons j p ih =>
    intro c x hx
    show (if x = j then c else flp h (h j) p x) = h x
    rw [if_neg (fun g => hx (by rw [g]; exact List.mem_cons_self)), ih (fun g => hx (List.mem_cons_of_mem _ g))]
theorem flp_congr {h g : Int → Int} : ∀ {p : List Int} {c x : Int}, (∀ y ∈ p, h y = g y) → h x = g x → flp h c p x = flp g c p x := by
  intro p
  induction p with
  | nil => intro c x _ hx; exact hx
  | cons j p ih =>
    intro c x hp hx
    show (if x = j then c else flp h (h j) p x) = if x = j then c else flp g (g j) p x
    rw [hp j List.mem_cons_self, ih (fun y hy => hp y (List.mem_cons_of_mem _ hy)) hx]
theorem pth_congr {E : Int → Int → Bool} {h g : Int → Int} : ∀ {p : List Int} {c : Int}, (∀ y ∈ p, h y = g y) → pth E h c p → pth E g c p := by
  intro p
  induction p with
  | nil => intro c _ hp; exact hp
  | cons j p ih =>
    intro c he hp
    obtain ⟨a1, a2, a3⟩ := hp
    have ej := he j List.mem_cons_self
    refine ⟨a1, a2, ?_⟩
    rw [← ej]
    rcases a3 with g1 | ⟨g1, g2⟩
    · exact Or.inl g1
    · exact Or.inr ⟨g1, ih (fun y hy => he y (List.mem_cons_of_mem _ hy)) g2⟩
theorem pth_noX {E : Int → Int → Bool} {h : Int → Int} {X : Int → Prop} (hcl : mCl E h X) : ∀ {p : List Int} {c : Int}, X c → ¬ pth E h c p := by
  intro p
  induction p with
  | nil => intro c _ hp; exact hp
  | cons j p ih =>
    intro c hx hp
    obtain ⟨a1, a2, a3⟩ := hp
    obtain ⟨b1, b2⟩ := hcl c j hx a1.1 a1.2 a2
    rcases a3 with ⟨_, g⟩ | ⟨_, g⟩
    · exact b1 g
    · exact ih b2 g
theorem pth_X {E : Int → Int → Bool} {h : Int → Int} {X : Int → Prop} (hcl : mCl E h X) : ∀ {p : List Int} {c : Int}, pth E h c p → ∀ j ∈ p, ¬ (h j ≠ -1 ∧ X (h j)) := by
  intro p
  induction p with
  | nil => intro c hp; exact hp.elim
  | cons i p ih =>
    intro c hp j hj ⟨g1, g2⟩
    obtain ⟨a1, a2, a3⟩ := hp
    rcases List.mem_cons.mp hj with rfl | hj
    · rcases a3 with ⟨_, g⟩ | ⟨_, g⟩
      · exact g1 g
      · exact pth_noX hcl g2 g
    · rcases a3 with ⟨g, _⟩ | ⟨_, g⟩
      · rw [g] at hj; cases hj
      · exact ih g j hj ⟨g1, g2⟩
theorem mV_set {E : Int → Int → Bool} {D : Int → Prop} {h : Int → Int} {j c : Int} (hv : mV E D h) (hj : 0 ≤ j ∧ j < 8) (hc : 0 ≤ c ∧ c < 8) (hE : E j c = true) (hn : ∀ x : Int, 0 ≤ x → x < 8 → x ≠ j → h x ≠ c) : mV E (fun x => D x ∨ x = c) (fun x => if x = j then c else h x) := by
  refine ⟨fun x g1 g2 => ?_, fun x y g1 g2 g3 g4 e ne => ?_⟩
  · dsimp only
    split
    · rename_i he
      right
      refine ⟨hc.1, hc.2, Or.inr rfl, ?_⟩
      rw [he]; exact hE
    · exact (hv.1 x g1 g2).imp id (fun g => ⟨g.1, g.2.1, Or.inl g.2.2.1, g.2.2.2⟩)
  · dsimp only at e ne
    by_cases hx : x = j
    · by_cases hy : y = j
      · rw [hx, hy]
      · rw [if_pos hx, if_neg hy] at e
        exact absurd e.symm (hn y g3 g4 hy)
    · by_cases hy : y = j
      · rw [if_neg hx, if_pos hy] at e
        exact absurd e (hn x g1 g2 hx)
      · rw [if_neg hx, if_neg hy] at e
        rw [if_neg hx] at ne
        exact hv.2 x y g1 g2 g3 g4 e ne
theorem mV_rel {E : Int → Int → Bool} {D : Int → Prop} {h : Int → Int} {j : Int} (hv : mV E D h) : mV E D (fun x => if x = j then -1 else h x) := by
  refine ⟨fun x g1 g2 => ?_, fun x y g1 g2 g3 g4 e ne => ?_⟩
  · dsimp only
    split
    · exact Or.inl rfl
    · exact hv.1 x g1 g2
  · dsimp only at e ne
    by_cases hx : x = j
    · rw [if_pos hx] at ne; exact absurd rfl ne
    · by_cases hy : y = j
      · rw [if_neg hx] at ne
        rw [if_neg hx, if_pos hy] at e
        exact absurd e ne
      · rw [if_neg hx, if_neg hy] at e
        rw [if_neg hx] at ne
        exact hv.2 x y g1 g2 g3 g4 e ne
theorem flp_ok {E : Int → Int → Bool} : ∀ {p : List Int} {c : Int} {h : Int → Int} {D : Int → Prop}, mV E D h → 0 ≤ c ∧ c < 8 → ¬ mD h c → pth E h c p → p.Nodup → mV E (fun x => D x ∨ x = c) (flp h c p) ∧ ∀ x : Int, 0 ≤ x → (mD (flp h c p) x ↔ mD h x ∨ x = c) := by
  intro p
  induction p with
  | nil => intro c h D _ _ _ hp; exact hp.elim
  | cons j p ih =>
    intro c h D hv hc hn hp hnd
    rw [List.nodup_cons] at hnd
    obtain ⟨a1, a2, a3⟩ := hp
    -- j is free first
    have key : ∃ g : Int → Int, mV E D g ∧ (∀ x : Int, 0 ≤ x → (mD g x ↔ mD h x)) ∧ g j = -1 ∧ ∀ x : Int, x ≠ j → flp h (h j) p x = g x := by
      rcases a3 with ⟨g1, g2⟩ | ⟨g1, g2⟩
      · refine ⟨h, hv, fun _ _ => Iff.rfl, g2, fun x hx => ?_⟩
        rw [g1]; rfl
      · have hb : ∀ y ∈ p, h y = (fun x => if x = j then -1 else h x) y := fun y hy => by
          dsimp only
          rw [if_neg (by rintro rfl; exact hnd.1 hy)]
        have hj := hv.1 j a1.1 a1.2
        have hjr : 0 ≤ h j ∧ h j < 8 := by
          rcases hj with g | g
          · exact absurd g g1
          · exact ⟨g.1, g.2.1⟩
        have hno : ¬ mD (fun x => if x = j then -1 else h x) (h j) := by
          rintro ⟨y, y1, y2, y3⟩
          dsimp only at y3
          by_cases hy : y = j
          · rw [if_pos hy] at y3; omega
          · rw [if_neg hy] at y3
            exact hy (hv.2 y j y1 y2 a1.1 a1.2 y3 (by rw [y3]; exact g1))
        obtain ⟨i1, i2⟩ := ih (mV_rel (j := j) hv) hjr hno (pth_congr hb g2) hnd.2
        refine ⟨flp (fun x => if x = j then -1 else h x) (h j) p, mV_w i1 (fun x hx => ?_), fun x hx => ?_, ?_, fun x hx => ?_⟩
        · rcases hx with hx | hx
          · exact hx
          · rw [hx]
            rcases hj with g | g
            · exact absurd g g1
            · exact g.2.2.1
        · rw [i2 x hx]
          constructor
          · rintro (⟨y, y1, y2, y3⟩ | y3)
            · dsimp only at y3
              by_cases hy : y = j
              · rw [if_pos hy] at y3; omega
              · rw [if_neg hy] at y3; exact ⟨y, y1, y2, y3⟩
            · exact ⟨j, a1.1, a1.2, y3.symm⟩
          · rintro ⟨y, y1, y2, y3⟩
            by_cases hy : y = j
            · right; rw [← y3, hy]
            · left; exact ⟨y, y1, y2, by dsimp only; rw [if_neg hy]; exact y3⟩
        · rw [flp_out hnd.1]
          rw [if_pos rfl]
        · exact flp_congr hb (by rw [if_neg hx])
    obtain ⟨g, k1, k2, k3, k4⟩ := key
    have hgc : ¬ mD g c := fun q => hn ((k2 c hc.1).mp q)
    have e : flp h c (j :: p) = fun x => if x = j then c else g x := by
      funext x
      show (if x = j then c else flp h (h j) p x) = _
      by_cases hx : x = j
      · rw [if_pos hx, if_pos hx]
      · rw [if_neg hx, if_neg hx, k4 x hx]
    rw [e]
    refine ⟨mV_set k1 a1 hc a2 (fun x g1 g2 _ g4 => hgc ⟨x, g1, g2, g4⟩), fun x hx => ?_⟩
    rw [← k2 x hx]
    constructor
    · rintro ⟨y, y1, y2, y3⟩
      dsimp only at y3
      by_cases hy : y = j
      · rw [if_pos hy] at y3; exact Or.inr y3.symm
      · rw [if_neg hy] at y3; exact Or.inl ⟨y, y1, y2, y3⟩
    · rintro (⟨y, y1, y2, y3⟩ | y3)
      · refine ⟨y, y1, y2, ?_⟩
        dsimp only
        rw [if_neg (by rintro rfl; omega)]
        exact y3
      · exact ⟨j, a1.1, a1.2, by dsimp only; rw [if_pos rfl]; exact y3.symm⟩
theorem flp_aug {E : Int → Int → Bool} {p : List Int} {c : Int} {h : Int → Int} {D X : Int → Prop} (hv : mV E D h) (hC : mC E D h X) (hc : 0 ≤ c ∧ c < 8) (hn : ¬ mD h c) (hp : pth E h c p) (hnd : p.Nodup) : mAug E D c h X (flp h c p) := by
  obtain ⟨a, b⟩ := flp_ok hv hc hn hp hnd
  refine ⟨a, b, fun j g1 g2 g3 g4 => flp_out (fun hj => pth_X hC.2 hp j hj ⟨g3, g4⟩)⟩
