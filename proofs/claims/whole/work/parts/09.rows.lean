/-! THE ROWS: one abstract step is steps of the machine -/
def jOf : Nat → Nat
  | 0 => 0
  | k + 1 => jOf k + (jLn k).toNat
def jSr (ws : va_W) (sb : Option (Nat × Nat)) : List jV → List Value → Prop
  | [], [] => True
  | v :: a, w :: b => jVr ws sb v w ∧ jSr ws sb a b
  | _, _ => False
theorem jSr_ex {ws ws' : va_W} {sb : Option (Nat × Nat)} (h : jEx ws ws') : ∀ {a : List jV} {b : List Value}, jSr ws sb a b → jSr ws' sb a b
  | [], [], g => g
  | _ :: _, _ :: _, g => ⟨jVr_ex h g.1, jSr_ex h g.2⟩
theorem jSr_cats {ws : va_W} {sb : Option (Nat × Nat)} : ∀ {a : List jV} {b : List Value}, jSr ws sb a b → (b.map fun v => v.category).sum = jCats a
  | [], [], _ => rfl
  | v :: a, w :: b, g => by
    have h1 := jVr_cat g.1
    have h2 := jSr_cats g.2
    simp only [List.map_cons, List.sum_cons, jCats] at h2 ⊢
    rw [h1, h2]
def jSx (s : State) (A : Nat → Prop) (H0 : Heap) (sb : Option (Nat × Nat)) (g : Int → Int) : Prop :=
  ∀ b L : Nat, sb = some (b, L) → L < 2 ^ 31 ∧ ∃ xs : Nat → Int32, va_X b L xs s H0 ∧ b < H0.size ∧ ¬ A b ∧ ∀ j : Nat, j < L → g j = (xs j).toInt
def jCx (p : Program) (R : Room) (s : State) (mi : MethodId) (args : Array Value) (meth : Method) (c : Code) (A : Nat → Prop) (H0 : Heap) (Ts : List Jvm.Cond) (z : Nat) (fu : Bool) (sb : Option (Nat × Nat)) (g : Int → Int) : Prop :=
  p.tables.exec = Jvm.exec ∧ c.code = jBy z ∧ c.maxLocals = jMx z ∧ s.vm.findClass (jRn (jCl z)) = some mi.cls ∧ (∀ w ∈ Ts, w.before args s = true) ∧ (∀ w ∈ jBW, w ∈ Ts) ∧ (∀ w ∈ jNests, va_Nw w s) ∧ (va_AO RX6 s ∧ va_AO RX7 s) ∧ (∀ q, H0.size ≤ q → A q) ∧ (1 ≤ R.frames ∧ 60 ≤ R.locals) ∧ (jMd z = 0 → fu = true) ∧ (jMd z = 1 → fu = false ∧ (meth.name = "<init>" ∨ jCl z = 12)) ∧ jSx s A H0 sb g
def jBd (R : Room) (z n0 : Nat) (ws : va_W) (m : jM) (cells slots : Nat) : Prop :=
  cells + n0 = ws.length ∧ slots + jOf n0 = jOf ws.length ∧ (jMd z = 1 → m (-2) (-7) = ((n0 + jMc z : Nat) : Int) ∧ jMc z ≤ R.cells ∧ jOf (n0 + jMc z) ≤ R.slots + jOf n0 ∧ n0 + jMc z ≤ 160 ∧ ws.length ≤ n0 + jMc z) ∧ (jMd z ≠ 1 → ws.length = n0)
def jRel (R : Room) (s : State) (D : va_G) (A : Nat → Prop) (H0 : Heap) (z : Nat) (fu : Bool) (sb : Option (Nat × Nat)) (g : Int → Int) (n0 : Nat) (ws0 : va_W) (H : Heap) (locs : List Loc) (cells slots : Nat) (ws : va_W) (tys : List (ClassId × FieldType)) (lsR : Array Slot) (stR : List Value) (ls : jS) (st : List jV) (m : jM) : Prop :=
  (va_P D jVc ws H ∧ va_D A ws ∧ va_K D jVc tys s ∧ va_S A H0 H locs ∧ jWd fu ws tys m) ∧ jLr ws sb (jMx z) ls lsR ∧ jSr ws sb st stR ∧ (∀ j, m (-2) j = g j) ∧ jBd R z n0 ws m cells slots ∧ jEx ws0 ws
def jP (p : Program) (l : Launch) (e : Env) (R : Room) (s : State) (mi : MethodId) (args : Array Value) (below : List Frame) (meth : Method) (c : Code) (Qf : State → Prop) (D : va_G) (A : Nat → Prop) (H0 : Heap) (z : Nat) (fu : Bool) (sb : Option (Nat × Nat)) (g : Int → Int) (n0 : Nat) (ws0 : va_W) (pc : Nat) (ls : jS) (st : List jV) (m : jM) : Prop :=
  ∀ (H : Heap) (locs : List Loc) (cells slots : Nat) (ws : va_W) (tys : List (ClassId × FieldType)) (lsR : Array Slot) (stR : List Value), jRel R s D A H0 z fu sb g n0 ws0 H locs cells slots ws tys lsR stR ls st m → W p l e R s mi args below meth c H locs cells slots Qf (F0 mi pc lsR stR)
section INV
variable {z : Nat} {C : Nat → List jV → jM → (Int → jM → Prop) → Prop} {X : Nat → jS → List jV → jM → Prop} {Q : Int → jM → Prop} {pc len : Nat} {ls : jS} {m : jM}
theorem jI1_inv {st : List jV} {k : Int → List jV → Option jE} (h : jStp z C X Q pc len ls m (jI1 st k)) : ∃ a r, st = .inl a :: r ∧ jStp z C X Q pc len ls m (k a r) := by
  match st, h with
  | .inl a :: r, h => exact ⟨a, r, rfl, h⟩
theorem jL1_inv {st : List jV} {k : Int → List jV → Option jE} (h : jStp z C X Q pc len ls m (jL1 st k)) : ∃ a r, st = .inr (.inl a) :: r ∧ jStp z C X Q pc len ls m (k a r) := by
  match st, h with
  | .inr (.inl a) :: r, h => exact ⟨a, r, rfl, h⟩
theorem jR1_inv {st : List jV} {k : (Nat × Int) ⊕ (Nat × Int × Int) → List jV → Option jE} (h : jStp z C X Q pc len ls m (jR1 st k)) : ∃ a r, st = .inr (.inr a) :: r ∧ jStp z C X Q pc len ls m (k a r) := by
  match st, h with
  | .inr (.inr a) :: r, h => exact ⟨a, r, rfl, h⟩
theorem jO1_inv {st : List jV} {k : Nat → Int → List jV → Option jE} (h : jStp z C X Q pc len ls m (jO1 st k)) : ∃ c a r, st = .inr (.inr (.inl (c, a))) :: r ∧ jStp z C X Q pc len ls m (k c a r) := by
  match st, h with
  | .inr (.inr (.inl (c, a))) :: r, h => exact ⟨c, a, r, rfl, h⟩
theorem jY1_inv {st : List jV} {k : Nat → Int → Int → List jV → Option jE} (h : jStp z C X Q pc len ls m (jY1 st k)) : ∃ t n a r, st = .inr (.inr (.inr (t, n, a))) :: r ∧ jStp z C X Q pc len ls m (k t n a r) := by
  match st, h with
  | .inr (.inr (.inr (t, n, a))) :: r, h => exact ⟨t, n, a, r, rfl, h⟩
theorem jV1_inv {st : List jV} {k : jV → List jV → Option jE} (h : jStp z C X Q pc len ls m (jV1 st k)) : ∃ v r, st = v :: r ∧ jStp z C X Q pc len ls m (k v r) := by
  match st, h with
  | v :: r, h => exact ⟨v, r, rfl, h⟩
theorem jLi_inv {i : Nat} {k : Int → Option jE} (h : jStp z C X Q pc len ls m (jLi ls i k)) : ∃ a, ls[i]? = some (some (.inl a)) ∧ jStp z C X Q pc len ls m (k a) := by
  unfold jLi at h
  split at h
  · exact ⟨_, ‹_›, h⟩
  · exact h.elim
theorem jLl_inv {i : Nat} {k : Int → Option jE} (h : jStp z C X Q pc len ls m (jLl ls i k)) : ∃ a, ls[i]? = some (some (.inr (.inl a))) ∧ jStp z C X Q pc len ls m (k a) := by
  unfold jLl at h
  split at h
  · exact ⟨_, ‹_›, h⟩
  · exact h.elim
theorem jLa_inv {i : Nat} {k : (Nat × Int) ⊕ (Nat × Int × Int) → Option jE} (h : jStp z C X Q pc len ls m (jLa ls i k)) : ∃ a, ls[i]? = some (some (.inr (.inr a))) ∧ jStp z C X Q pc len ls m (k a) := by
  unfold jLa at h
  split at h
  · exact ⟨_, ‹_›, h⟩
  · exact h.elim
theorem jIf_inv {c : Prop} [Decidable c] {e : Option jE} (h : jStp z C X Q pc len ls m (jIf c e)) : c ∧ jStp z C X Q pc len ls m e := by
  unfold jIf at h
  split at h
  · exact ⟨‹_›, h⟩
  · exact h.elim
theorem jLs_inv {o : Option jS} {p : Nat} {st : List jV} {m' : jM} (h : jStp z C X Q pc len ls m (jLs o p st m')) : ∃ ls', o = some ls' ∧ X p ls' st m' := by
  match o, h with
  | some ls', h =>
    simp only [jLs, jFor_eq] at h
    exact ⟨ls', rfl, h⟩
end INV
section ROWS
variable {p : Program} {l : Launch} {e : Env} {R : Room} {s : State} {mi : MethodId} {args : Array Value} {below : List Frame} {meth : Method} {c : Code} {Qf : State → Prop} {D : va_G} {A : Nat → Prop} {H0 : Heap} {Ts : List Jvm.Cond} {z : Nat} {fu : Bool} {sb : Option (Nat × Nat)} {g : Int → Int} {n0 : Nat} {ws0 : va_W}
variable {pc : Nat} {ls : jS} {st : List jV} {m : jM} {C : Nat → List jV → jM → (Int → jM → Prop) → Prop} {Q : Int → jM → Prop}
variable {H : Heap} {locs : List Loc} {cells slots : Nat} {ws : va_W} {tys : List (ClassId × FieldType)} {lsR : Array Slot} {stR : List Value}
theorem jRel_v {v : jV} {r : List jV} (h : jRel R s D A H0 z fu sb g n0 ws0 H locs cells slots ws tys lsR stR ls (v :: r) m) : ∃ w rR, stR = w :: rR ∧ jVr ws sb v w ∧ jRel R s D A H0 z fu sb g n0 ws0 H locs cells slots ws tys lsR rR ls r m := by
  obtain ⟨h1, h2, h3, h4⟩ := h
  match stR, h3 with
  | w :: rR, h3 => exact ⟨w, rR, rfl, h3.1, h1, h2, h3.2, h4⟩
theorem jRel_i {a : Int} {r : List jV} (h : jRel R s D A H0 z fu sb g n0 ws0 H locs cells slots ws tys lsR stR ls (.inl a :: r) m) : ∃ (x : Int32) (rR : List Value), stR = .int x :: rR ∧ a = x.toInt ∧ jRel R s D A H0 z fu sb g n0 ws0 H locs cells slots ws tys lsR rR ls r m := by
  obtain ⟨w, rR, rfl, ⟨x, rfl, hx⟩, h2⟩ := jRel_v h
  exact ⟨x, rR, rfl, hx, h2⟩
theorem jRel_l {a : Int} {r : List jV} (h : jRel R s D A H0 z fu sb g n0 ws0 H locs cells slots ws tys lsR stR ls (.inr (.inl a) :: r) m) : ∃ (x : Int64) (rR : List Value), stR = .long x :: rR ∧ a = x.toInt ∧ jRel R s D A H0 z fu sb g n0 ws0 H locs cells slots ws tys lsR rR ls r m := by
  obtain ⟨w, rR, rfl, ⟨x, rfl, hx⟩, h2⟩ := jRel_v h
  exact ⟨x, rR, rfl, hx, h2⟩
theorem jVr_ref {a : (Nat × Int) ⊕ (Nat × Int × Int)} {w : Value} (h : jVr ws sb (.inr (.inr a)) w) : ∃ q, w = .ref q := by
  match a, h with
  | .inl (c, k), ⟨_, q, h, _⟩ => exact ⟨q, h⟩
  | .inr (t, n, k), h =>
    rcases h with ⟨_, _, _, q, h, _⟩ | ⟨_, b, L, _, _, _, h⟩
    · exact ⟨q, h⟩
    · exact ⟨b, h⟩
theorem jRel_r {a : (Nat × Int) ⊕ (Nat × Int × Int)} {r : List jV} (h : jRel R s D A H0 z fu sb g n0 ws0 H locs cells slots ws tys lsR stR ls (.inr (.inr a) :: r) m) : ∃ (q : Nat) (rR : List Value), stR = .ref q :: rR ∧ jVr ws sb (.inr (.inr a)) (.ref q) ∧ jRel R s D A H0 z fu sb g n0 ws0 H locs cells slots ws tys lsR rR ls r m := by
  obtain ⟨w, rR, rfl, hv, h2⟩ := jRel_v h
  obtain ⟨q, rfl⟩ := jVr_ref hv
  exact ⟨q, rR, rfl, hv, h2⟩
theorem jRel_pv {v : jV} {w : Value} (h : jRel R s D A H0 z fu sb g n0 ws0 H locs cells slots ws tys lsR stR ls st m) (hv : jVr ws sb v w) : jRel R s D A H0 z fu sb g n0 ws0 H locs cells slots ws tys lsR (w :: stR) ls (v :: st) m :=
  ⟨h.1, h.2.1, ⟨hv, h.2.2.1⟩, h.2.2.2⟩
theorem jRel_pi {a : Int} {x : Int32} (h : jRel R s D A H0 z fu sb g n0 ws0 H locs cells slots ws tys lsR stR ls st m) (hv : a = x.toInt) : jRel R s D A H0 z fu sb g n0 ws0 H locs cells slots ws tys lsR (.int x :: stR) ls (.inl a :: st) m := jRel_pv h ⟨x, rfl, hv⟩
theorem jRel_pl {a : Int} {x : Int64} (h : jRel R s D A H0 z fu sb g n0 ws0 H locs cells slots ws tys lsR stR ls st m) (hv : a = x.toInt) : jRel R s D A H0 z fu sb g n0 ws0 H locs cells slots ws tys lsR (.long x :: stR) ls (.inr (.inl a) :: st) m := jRel_pv h ⟨x, rfl, hv⟩
theorem jRel_at {i : Nat} {v : jV} (h : jRel R s D A H0 z fu sb g n0 ws0 H locs cells slots ws tys lsR stR ls st m) (hv : ls[i]? = some (some v)) : ∃ w, lsR[i]? = some (.val w) ∧ jVr ws sb v w := jLr_at h.2.1 hv
/-- a store of one word: the machine's list of locals, and the tie behind it -/
theorem jRel_s1 {i : Nat} {v : jV} {w : Value} {ls' : jS} (h : jRel R s D A H0 z fu sb g n0 ws0 H locs cells slots ws tys lsR stR ls st m) (hs : jSt1 ls i v = some ls') (hv : jVr ws sb v w) :
    ∃ lv, lv_has lsR (jMx z) lv ∧ i < jMx z ∧ (∀ (k : Nat) (u : jV), ls[k]? = some (some u) → ∃ x, (k, x) ∈ lv ∧ jVr ws sb u x) ∧ ∀ lsR', lv_has lsR' (jMx z) ((i, w) :: lv.filter (fun q => !(q.1 == i) && !(q.1 + 1 == i && q.2.category == 2))) → jRel R s D A H0 z fu sb g n0 ws0 H locs cells slots ws tys lsR' stR ls' st m := by
  obtain ⟨h1, ⟨h2, lv, h3, h4⟩, h5⟩ := h
  obtain ⟨k1, k2, k3⟩ := jSt1_ok h4 hs hv
  exact ⟨lv, h3, by omega, h4, fun lsR' hl => ⟨h1, ⟨k1.trans h2, _, hl, k3⟩, h5⟩⟩
theorem jRel_s2 {i : Nat} {v : jV} {w : Value} {ls' : jS} (h : jRel R s D A H0 z fu sb g n0 ws0 H locs cells slots ws tys lsR stR ls st m) (hs : jSt2 ls i v = some ls') (hv : jVr ws sb v w) :
    ∃ lv, lv_has lsR (jMx z) lv ∧ i + 1 < jMx z ∧ ∀ lsR', lv_has lsR' (jMx z) ((i, w) :: lv.filter (fun q => !(q.1 == i) && (!(q.1 == i + 1) && !(q.1 + 1 == i && q.2.category == 2)))) → jRel R s D A H0 z fu sb g n0 ws0 H locs cells slots ws tys lsR' stR ls' st m := by
  obtain ⟨h1, ⟨h2, lv, h3, h4⟩, h5⟩ := h
  obtain ⟨k1, k2, k3⟩ := jSt2_ok h4 hs hv
  exact ⟨lv, h3, by omega, fun lsR' hl => ⟨h1, ⟨k1.trans h2, _, hl, k3⟩, h5⟩⟩
theorem jr_iadd (hc : jCx p R s mi args meth c A H0 Ts z fu sb g) (hd : decode (jBy z) pc = .ok (.iadd, 1)) (h : jStp z C (jP p l e R s mi args below meth c Qf D A H0 z fu sb g n0 ws0) Q pc 1 ls m (jEff z (.iadd) 1 pc ls st m)) : jP p l e R s mi args below meth c Qf D A H0 z fu sb g n0 ws0 pc ls st m := by
  obtain ⟨b, r, rfl, h1⟩ := jI1_inv h
  obtain ⟨a, r, rfl, h2⟩ := jI1_inv h1
  intro H locs cells slots ws tys lsR stR hr0
  obtain ⟨y, rR, rfl, rfl, hr1⟩ := jRel_i hr0
  obtain ⟨x, rR, rfl, rfl, hr2⟩ := jRel_i hr1
  refine lv_iadd hc.1 hc.2.1 hd ?_
  exact h2 _ _ _ _ _ _ _ _ (jRel_pi hr2 (jn_add x y))
theorem jr_isub (hc : jCx p R s mi args meth c A H0 Ts z fu sb g) (hd : decode (jBy z) pc = .ok (.isub, 1)) (h : jStp z C (jP p l e R s mi args below meth c Qf D A H0 z fu sb g n0 ws0) Q pc 1 ls m (jEff z (.isub) 1 pc ls st m)) : jP p l e R s mi args below meth c Qf D A H0 z fu sb g n0 ws0 pc ls st m := by
  obtain ⟨b, r, rfl, h1⟩ := jI1_inv h
  obtain ⟨a, r, rfl, h2⟩ := jI1_inv h1
  intro H locs cells slots ws tys lsR stR hr0
  obtain ⟨y, rR, rfl, rfl, hr1⟩ := jRel_i hr0
  obtain ⟨x, rR, rfl, rfl, hr2⟩ := jRel_i hr1
  refine lv_isub hc.1 hc.2.1 hd ?_
  exact h2 _ _ _ _ _ _ _ _ (jRel_pi hr2 (jn_sub x y))
theorem jr_imul (hc : jCx p R s mi args meth c A H0 Ts z fu sb g) (hd : decode (jBy z) pc = .ok (.imul, 1)) (h : jStp z C (jP p l e R s mi args below meth c Qf D A H0 z fu sb g n0 ws0) Q pc 1 ls m (jEff z (.imul) 1 pc ls st m)) : jP p l e R s mi args below meth c Qf D A H0 z fu sb g n0 ws0 pc ls st m := by
  obtain ⟨b, r, rfl, h1⟩ := jI1_inv h
  obtain ⟨a, r, rfl, h2⟩ := jI1_inv h1
  intro H locs cells slots ws tys lsR stR hr0
  obtain ⟨y, rR, rfl, rfl, hr1⟩ := jRel_i hr0
  obtain ⟨x, rR, rfl, rfl, hr2⟩ := jRel_i hr1
  refine lv_imul hc.1 hc.2.1 hd ?_
  exact h2 _ _ _ _ _ _ _ _ (jRel_pi hr2 (jn_mul x y))
theorem jr_iand (hc : jCx p R s mi args meth c A H0 Ts z fu sb g) (hd : decode (jBy z) pc = .ok (.iand, 1)) (h : jStp z C (jP p l e R s mi args below meth c Qf D A H0 z fu sb g n0 ws0) Q pc 1 ls m (jEff z (.iand) 1 pc ls st m)) : jP p l e R s mi args below meth c Qf D A H0 z fu sb g n0 ws0 pc ls st m := by
  obtain ⟨b, r, rfl, h1⟩ := jI1_inv h
  obtain ⟨a, r, rfl, h2⟩ := jI1_inv h1
  intro H locs cells slots ws tys lsR stR hr0
  obtain ⟨y, rR, rfl, rfl, hr1⟩ := jRel_i hr0
  obtain ⟨x, rR, rfl, rfl, hr2⟩ := jRel_i hr1
  refine lv_iand hc.1 hc.2.1 hd ?_
  exact h2 _ _ _ _ _ _ _ _ (jRel_pi hr2 (jn_and x y))
theorem jr_ior (hc : jCx p R s mi args meth c A H0 Ts z fu sb g) (hd : decode (jBy z) pc = .ok (.ior, 1)) (h : jStp z C (jP p l e R s mi args below meth c Qf D A H0 z fu sb g n0 ws0) Q pc 1 ls m (jEff z (.ior) 1 pc ls st m)) : jP p l e R s mi args below meth c Qf D A H0 z fu sb g n0 ws0 pc ls st m := by
  obtain ⟨b, r, rfl, h1⟩ := jI1_inv h
  obtain ⟨a, r, rfl, h2⟩ := jI1_inv h1
  intro H locs cells slots ws tys lsR stR hr0
  obtain ⟨y, rR, rfl, rfl, hr1⟩ := jRel_i hr0
  obtain ⟨x, rR, rfl, rfl, hr2⟩ := jRel_i hr1
  refine lv_ior hc.1 hc.2.1 hd ?_
  exact h2 _ _ _ _ _ _ _ _ (jRel_pi hr2 (jn_or x y))
theorem jr_ixor (hc : jCx p R s mi args meth c A H0 Ts z fu sb g) (hd : decode (jBy z) pc = .ok (.ixor, 1)) (h : jStp z C (jP p l e R s mi args below meth c Qf D A H0 z fu sb g n0 ws0) Q pc 1 ls m (jEff z (.ixor) 1 pc ls st m)) : jP p l e R s mi args below meth c Qf D A H0 z fu sb g n0 ws0 pc ls st m := by
  obtain ⟨b, r, rfl, h1⟩ := jI1_inv h
  obtain ⟨a, r, rfl, h2⟩ := jI1_inv h1
  intro H locs cells slots ws tys lsR stR hr0
  obtain ⟨y, rR, rfl, rfl, hr1⟩ := jRel_i hr0
  obtain ⟨x, rR, rfl, rfl, hr2⟩ := jRel_i hr1
  refine lv_ixor hc.1 hc.2.1 hd ?_
  exact h2 _ _ _ _ _ _ _ _ (jRel_pi hr2 (jn_xor x y))
theorem jr_ishl (hc : jCx p R s mi args meth c A H0 Ts z fu sb g) (hd : decode (jBy z) pc = .ok (.ishl, 1)) (h : jStp z C (jP p l e R s mi args below meth c Qf D A H0 z fu sb g n0 ws0) Q pc 1 ls m (jEff z (.ishl) 1 pc ls st m)) : jP p l e R s mi args below meth c Qf D A H0 z fu sb g n0 ws0 pc ls st m := by
  obtain ⟨b, r, rfl, h1⟩ := jI1_inv h
  obtain ⟨a, r, rfl, h2⟩ := jI1_inv h1
  intro H locs cells slots ws tys lsR stR hr0
  obtain ⟨y, rR, rfl, rfl, hr1⟩ := jRel_i hr0
  obtain ⟨x, rR, rfl, rfl, hr2⟩ := jRel_i hr1
  refine lv_ishl hc.1 hc.2.1 hd ?_
  exact h2 _ _ _ _ _ _ _ _ (jRel_pi hr2 (jn_shl x y))
theorem jr_ishr (hc : jCx p R s mi args meth c A H0 Ts z fu sb g) (hd : decode (jBy z) pc = .ok (.ishr, 1)) (h : jStp z C (jP p l e R s mi args below meth c Qf D A H0 z fu sb g n0 ws0) Q pc 1 ls m (jEff z (.ishr) 1 pc ls st m)) : jP p l e R s mi args below meth c Qf D A H0 z fu sb g n0 ws0 pc ls st m := by
  obtain ⟨b, r, rfl, h1⟩ := jI1_inv h
  obtain ⟨a, r, rfl, h2⟩ := jI1_inv h1
  intro H locs cells slots ws tys lsR stR hr0
  obtain ⟨y, rR, rfl, rfl, hr1⟩ := jRel_i hr0
  obtain ⟨x, rR, rfl, rfl, hr2⟩ := jRel_i hr1
  refine lv_ishr hc.1 hc.2.1 hd ?_
  exact h2 _ _ _ _ _ _ _ _ (jRel_pi hr2 (jn_shr x y))
theorem jr_iushr (hc : jCx p R s mi args meth c A H0 Ts z fu sb g) (hd : decode (jBy z) pc = .ok (.iushr, 1)) (h : jStp z C (jP p l e R s mi args below meth c Qf D A H0 z fu sb g n0 ws0) Q pc 1 ls m (jEff z (.iushr) 1 pc ls st m)) : jP p l e R s mi args below meth c Qf D A H0 z fu sb g n0 ws0 pc ls st m := by
  obtain ⟨b, r, rfl, h1⟩ := jI1_inv h
  obtain ⟨a, r, rfl, h2⟩ := jI1_inv h1
  intro H locs cells slots ws tys lsR stR hr0
  obtain ⟨y, rR, rfl, rfl, hr1⟩ := jRel_i hr0
  obtain ⟨x, rR, rfl, rfl, hr2⟩ := jRel_i hr1
  refine lv_iushr hc.1 hc.2.1 hd rfl ?_
  exact h2 _ _ _ _ _ _ _ _ (jRel_pi hr2 (jn_ushr x y))
theorem jr_idiv (hc : jCx p R s mi args meth c A H0 Ts z fu sb g) (hd : decode (jBy z) pc = .ok (.idiv, 1)) (h : jStp z C (jP p l e R s mi args below meth c Qf D A H0 z fu sb g n0 ws0) Q pc 1 ls m (jEff z (.idiv) 1 pc ls st m)) : jP p l e R s mi args below meth c Qf D A H0 z fu sb g n0 ws0 pc ls st m := by
  obtain ⟨b, r, rfl, h1⟩ := jI1_inv h
  obtain ⟨a, r, rfl, h2⟩ := jI1_inv h1
  intro H locs cells slots ws tys lsR stR hr0
  obtain ⟨y, rR, rfl, rfl, hr1⟩ := jRel_i hr0
  obtain ⟨x, rR, rfl, rfl, hr2⟩ := jRel_i hr1
  refine lv_idiv hc.1 hc.2.1 hd (fun q => h2.1 (by rw [q]; exact jn_0)) ?_
  exact h2.2 _ _ _ _ _ _ _ _ (jRel_pi hr2 (jn_div x y))
theorem jr_irem (hc : jCx p R s mi args meth c A H0 Ts z fu sb g) (hd : decode (jBy z) pc = .ok (.irem, 1)) (h : jStp z C (jP p l e R s mi args below meth c Qf D A H0 z fu sb g n0 ws0) Q pc 1 ls m (jEff z (.irem) 1 pc ls st m)) : jP p l e R s mi args below meth c Qf D A H0 z fu sb g n0 ws0 pc ls st m := by
  obtain ⟨b, r, rfl, h1⟩ := jI1_inv h
  obtain ⟨a, r, rfl, h2⟩ := jI1_inv h1
  intro H locs cells slots ws tys lsR stR hr0
  obtain ⟨y, rR, rfl, rfl, hr1⟩ := jRel_i hr0
  obtain ⟨x, rR, rfl, rfl, hr2⟩ := jRel_i hr1
  refine lv_irem hc.1 hc.2.1 hd (fun q => h2.1 (by rw [q]; exact jn_0)) ?_
  exact h2.2 _ _ _ _ _ _ _ _ (jRel_pi hr2 (jn_rem x y))
theorem jr_ladd (hc : jCx p R s mi args meth c A H0 Ts z fu sb g) (hd : decode (jBy z) pc = .ok (.ladd, 1)) (h : jStp z C (jP p l e R s mi args below meth c Qf D A H0 z fu sb g n0 ws0) Q pc 1 ls m (jEff z (.ladd) 1 pc ls st m)) : jP p l e R s mi args below meth c Qf D A H0 z fu sb g n0 ws0 pc ls st m := by
  obtain ⟨b, r, rfl, h1⟩ := jL1_inv h
  obtain ⟨a, r, rfl, h2⟩ := jL1_inv h1
  intro H locs cells slots ws tys lsR stR hr0
  obtain ⟨y, rR, rfl, rfl, hr1⟩ := jRel_l hr0
  obtain ⟨x, rR, rfl, rfl, hr2⟩ := jRel_l hr1
  refine lv_ladd hc.1 hc.2.1 hd ?_
  exact h2 _ _ _ _ _ _ _ _ (jRel_pl hr2 (jn_ladd x y))
theorem jr_lsub (hc : jCx p R s mi args meth c A H0 Ts z fu sb g) (hd : decode (jBy z) pc = .ok (.lsub, 1)) (h : jStp z C (jP p l e R s mi args below meth c Qf D A H0 z fu sb g n0 ws0) Q pc 1 ls m (jEff z (.lsub) 1 pc ls st m)) : jP p l e R s mi args below meth c Qf D A H0 z fu sb g n0 ws0 pc ls st m := by
  obtain ⟨b, r, rfl, h1⟩ := jL1_inv h
  obtain ⟨a, r, rfl, h2⟩ := jL1_inv h1
  intro H locs cells slots ws tys lsR stR hr0
  obtain ⟨y, rR, rfl, rfl, hr1⟩ := jRel_l hr0
  obtain ⟨x, rR, rfl, rfl, hr2⟩ := jRel_l hr1
  refine lv_lsub hc.1 hc.2.1 hd ?_
  exact h2 _ _ _ _ _ _ _ _ (jRel_pl hr2 (jn_lsub x y))
theorem jr_lmul (hc : jCx p R s mi args meth c A H0 Ts z fu sb g) (hd : decode (jBy z) pc = .ok (.lmul, 1)) (h : jStp z C (jP p l e R s mi args below meth c Qf D A H0 z fu sb g n0 ws0) Q pc 1 ls m (jEff z (.lmul) 1 pc ls st m)) : jP p l e R s mi args below meth c Qf D A H0 z fu sb g n0 ws0 pc ls st m := by
  obtain ⟨b, r, rfl, h1⟩ := jL1_inv h
  obtain ⟨a, r, rfl, h2⟩ := jL1_inv h1
  intro H locs cells slots ws tys lsR stR hr0
  obtain ⟨y, rR, rfl, rfl, hr1⟩ := jRel_l hr0
  obtain ⟨x, rR, rfl, rfl, hr2⟩ := jRel_l hr1
  refine lv_lmul hc.1 hc.2.1 hd ?_
  exact h2 _ _ _ _ _ _ _ _ (jRel_pl hr2 (jn_lmul x y))
theorem jr_land (hc : jCx p R s mi args meth c A H0 Ts z fu sb g) (hd : decode (jBy z) pc = .ok (.land, 1)) (h : jStp z C (jP p l e R s mi args below meth c Qf D A H0 z fu sb g n0 ws0) Q pc 1 ls m (jEff z (.land) 1 pc ls st m)) : jP p l e R s mi args below meth c Qf D A H0 z fu sb g n0 ws0 pc ls st m := by
  obtain ⟨b, r, rfl, h1⟩ := jL1_inv h
  obtain ⟨a, r, rfl, h2⟩ := jL1_inv h1
  intro H locs cells slots ws tys lsR stR hr0
  obtain ⟨y, rR, rfl, rfl, hr1⟩ := jRel_l hr0
  obtain ⟨x, rR, rfl, rfl, hr2⟩ := jRel_l hr1
  refine lv_land hc.1 hc.2.1 hd ?_
  exact h2 _ _ _ _ _ _ _ _ (jRel_pl hr2 (jn_land x y))
theorem jr_lor (hc : jCx p R s mi args meth c A H0 Ts z fu sb g) (hd : decode (jBy z) pc = .ok (.lor, 1)) (h : jStp z C (jP p l e R s mi args below meth c Qf D A H0 z fu sb g n0 ws0) Q pc 1 ls m (jEff z (.lor) 1 pc ls st m)) : jP p l e R s mi args below meth c Qf D A H0 z fu sb g n0 ws0 pc ls st m := by
  obtain ⟨b, r, rfl, h1⟩ := jL1_inv h
  obtain ⟨a, r, rfl, h2⟩ := jL1_inv h1
  intro H locs cells slots ws tys lsR stR hr0
  obtain ⟨y, rR, rfl, rfl, hr1⟩ := jRel_l hr0
  obtain ⟨x, rR, rfl, rfl, hr2⟩ := jRel_l hr1
  refine lv_lor hc.1 hc.2.1 hd ?_
  exact h2 _ _ _ _ _ _ _ _ (jRel_pl hr2 (jn_lor x y))
theorem jr_lxor (hc : jCx p R s mi args meth c A H0 Ts z fu sb g) (hd : decode (jBy z) pc = .ok (.lxor, 1)) (h : jStp z C (jP p l e R s mi args below meth c Qf D A H0 z fu sb g n0 ws0) Q pc 1 ls m (jEff z (.lxor) 1 pc ls st m)) : jP p l e R s mi args below meth c Qf D A H0 z fu sb g n0 ws0 pc ls st m := by
  obtain ⟨b, r, rfl, h1⟩ := jL1_inv h
  obtain ⟨a, r, rfl, h2⟩ := jL1_inv h1
  intro H locs cells slots ws tys lsR stR hr0
  obtain ⟨y, rR, rfl, rfl, hr1⟩ := jRel_l hr0
  obtain ⟨x, rR, rfl, rfl, hr2⟩ := jRel_l hr1
  refine lv_lxor hc.1 hc.2.1 hd ?_
  exact h2 _ _ _ _ _ _ _ _ (jRel_pl hr2 (jn_lxor x y))
theorem jr_ldiv (hc : jCx p R s mi args meth c A H0 Ts z fu sb g) (hd : decode (jBy z) pc = .ok (.ldiv, 1)) (h : jStp z C (jP p l e R s mi args below meth c Qf D A H0 z fu sb g n0 ws0) Q pc 1 ls m (jEff z (.ldiv) 1 pc ls st m)) : jP p l e R s mi args below meth c Qf D A H0 z fu sb g n0 ws0 pc ls st m := by
  obtain ⟨b, r, rfl, h1⟩ := jL1_inv h
  obtain ⟨a, r, rfl, h2⟩ := jL1_inv h1
  intro H locs cells slots ws tys lsR stR hr0
  obtain ⟨y, rR, rfl, rfl, hr1⟩ := jRel_l hr0
  obtain ⟨x, rR, rfl, rfl, hr2⟩ := jRel_l hr1
  refine lv_ldiv hc.1 hc.2.1 hd (fun q => h2.1 (by rw [q]; decide)) ?_
  exact h2.2 _ _ _ _ _ _ _ _ (jRel_pl hr2 (jn_ldiv x y))
theorem jr_lrem (hc : jCx p R s mi args meth c A H0 Ts z fu sb g) (hd : decode (jBy z) pc = .ok (.lrem, 1)) (h : jStp z C (jP p l e R s mi args below meth c Qf D A H0 z fu sb g n0 ws0) Q pc 1 ls m (jEff z (.lrem) 1 pc ls st m)) : jP p l e R s mi args below meth c Qf D A H0 z fu sb g n0 ws0 pc ls st m := by
  obtain ⟨b, r, rfl, h1⟩ := jL1_inv h
  obtain ⟨a, r, rfl, h2⟩ := jL1_inv h1
  intro H locs cells slots ws tys lsR stR hr0
  obtain ⟨y, rR, rfl, rfl, hr1⟩ := jRel_l hr0
  obtain ⟨x, rR, rfl, rfl, hr2⟩ := jRel_l hr1
  refine lv_lrem hc.1 hc.2.1 hd (fun q => h2.1 (by rw [q]; decide)) ?_
  exact h2.2 _ _ _ _ _ _ _ _ (jRel_pl hr2 (jn_lrem x y))
theorem jr_lshl (hc : jCx p R s mi args meth c A H0 Ts z fu sb g) (hd : decode (jBy z) pc = .ok (.lshl, 1)) (h : jStp z C (jP p l e R s mi args below meth c Qf D A H0 z fu sb g n0 ws0) Q pc 1 ls m (jEff z (.lshl) 1 pc ls st m)) : jP p l e R s mi args below meth c Qf D A H0 z fu sb g n0 ws0 pc ls st m := by
  obtain ⟨b, r, rfl, h1⟩ := jI1_inv h
  obtain ⟨a, r, rfl, h2⟩ := jL1_inv h1
  intro H locs cells slots ws tys lsR stR hr0
  obtain ⟨y, rR, rfl, rfl, hr1⟩ := jRel_i hr0
  obtain ⟨x, rR, rfl, rfl, hr2⟩ := jRel_l hr1
  refine lv_lshl hc.1 hc.2.1 hd rfl ?_
  exact h2 _ _ _ _ _ _ _ _ (jRel_pl hr2 (jn_lshl x y))
theorem jr_lneg (hc : jCx p R s mi args meth c A H0 Ts z fu sb g) (hd : decode (jBy z) pc = .ok (.lneg, 1)) (h : jStp z C (jP p l e R s mi args below meth c Qf D A H0 z fu sb g n0 ws0) Q pc 1 ls m (jEff z (.lneg) 1 pc ls st m)) : jP p l e R s mi args below meth c Qf D A H0 z fu sb g n0 ws0 pc ls st m := by
  obtain ⟨a, r, rfl, h1⟩ := jL1_inv h
  intro H locs cells slots ws tys lsR stR hr0
  obtain ⟨x, rR, rfl, rfl, hr1⟩ := jRel_l hr0
  refine lv_lneg hc.1 hc.2.1 hd ?_
  exact h1 _ _ _ _ _ _ _ _ (jRel_pl hr1 (jn_lneg x))
theorem jr_i2l (hc : jCx p R s mi args meth c A H0 Ts z fu sb g) (hd : decode (jBy z) pc = .ok (.i2l, 1)) (h : jStp z C (jP p l e R s mi args below meth c Qf D A H0 z fu sb g n0 ws0) Q pc 1 ls m (jEff z (.i2l) 1 pc ls st m)) : jP p l e R s mi args below meth c Qf D A H0 z fu sb g n0 ws0 pc ls st m := by
  obtain ⟨a, r, rfl, h1⟩ := jI1_inv h
  intro H locs cells slots ws tys lsR stR hr0
  obtain ⟨x, rR, rfl, rfl, hr1⟩ := jRel_i hr0
  refine lv_i2l hc.1 hc.2.1 hd rfl ?_
  exact h1 _ _ _ _ _ _ _ _ (jRel_pl hr1 (jn_i2l x))
theorem jr_l2i (hc : jCx p R s mi args meth c A H0 Ts z fu sb g) (hd : decode (jBy z) pc = .ok (.l2i, 1)) (h : jStp z C (jP p l e R s mi args below meth c Qf D A H0 z fu sb g n0 ws0) Q pc 1 ls m (jEff z (.l2i) 1 pc ls st m)) : jP p l e R s mi args below meth c Qf D A H0 z fu sb g n0 ws0 pc ls st m := by
  obtain ⟨a, r, rfl, h1⟩ := jL1_inv h
  intro H locs cells slots ws tys lsR stR hr0
  obtain ⟨x, rR, rfl, rfl, hr1⟩ := jRel_l hr0
  refine lv_l2i hc.1 hc.2.1 hd rfl ?_
  exact h1 _ _ _ _ _ _ _ _ (jRel_pi hr1 (jn_l2i x))
theorem jr_i2b (hc : jCx p R s mi args meth c A H0 Ts z fu sb g) (hd : decode (jBy z) pc = .ok (.i2b, 1)) (h : jStp z C (jP p l e R s mi args below meth c Qf D A H0 z fu sb g n0 ws0) Q pc 1 ls m (jEff z (.i2b) 1 pc ls st m)) : jP p l e R s mi args below meth c Qf D A H0 z fu sb g n0 ws0 pc ls st m := by
  obtain ⟨a, r, rfl, h1⟩ := jI1_inv h
  intro H locs cells slots ws tys lsR stR hr0
  obtain ⟨x, rR, rfl, rfl, hr1⟩ := jRel_i hr0
  refine lv_i2b hc.1 hc.2.1 hd rfl ?_
  exact h1 _ _ _ _ _ _ _ _ (jRel_pi hr1 (jn_i2b x))
theorem jr_iload_n {k : Fin 4} (hc : jCx p R s mi args meth c A H0 Ts z fu sb g) (hd : decode (jBy z) pc = .ok (.iload_n k, 1)) (h : jStp z C (jP p l e R s mi args below meth c Qf D A H0 z fu sb g n0 ws0) Q pc 1 ls m (jEff z (.iload k.val) 1 pc ls st m)) : jP p l e R s mi args below meth c Qf D A H0 z fu sb g n0 ws0 pc ls st m := by
  obtain ⟨a, ha, h1⟩ := jLi_inv h
  intro H locs cells slots ws tys lsR stR hr0
  obtain ⟨w, hw, ⟨x, rfl, hx⟩⟩ := jRel_at hr0 ha
  refine lv_iload_n hc.1 hc.2.1 hd rfl hw ?_
  exact h1 _ _ _ _ _ _ _ _ (jRel_pi hr0 hx)
theorem jr_lload_n {k : Fin 4} (hc : jCx p R s mi args meth c A H0 Ts z fu sb g) (hd : decode (jBy z) pc = .ok (.lload_n k, 1)) (h : jStp z C (jP p l e R s mi args below meth c Qf D A H0 z fu sb g n0 ws0) Q pc 1 ls m (jEff z (.lload k.val) 1 pc ls st m)) : jP p l e R s mi args below meth c Qf D A H0 z fu sb g n0 ws0 pc ls st m := by
  obtain ⟨a, ha, h1⟩ := jLl_inv h
  intro H locs cells slots ws tys lsR stR hr0
  obtain ⟨w, hw, ⟨x, rfl, hx⟩⟩ := jRel_at hr0 ha
  refine lv_lload_n hc.1 hc.2.1 hd rfl hw ?_
  exact h1 _ _ _ _ _ _ _ _ (jRel_pl hr0 hx)
theorem jr_aload_n {k : Fin 4} (hc : jCx p R s mi args meth c A H0 Ts z fu sb g) (hd : decode (jBy z) pc = .ok (.aload_n k, 1)) (h : jStp z C (jP p l e R s mi args below meth c Qf D A H0 z fu sb g n0 ws0) Q pc 1 ls m (jEff z (.aload k.val) 1 pc ls st m)) : jP p l e R s mi args below meth c Qf D A H0 z fu sb g n0 ws0 pc ls st m := by
  obtain ⟨a, ha, h1⟩ := jLa_inv h
  intro H locs cells slots ws tys lsR stR hr0
  obtain ⟨w, hw, hv⟩ := jRel_at hr0 ha
  obtain ⟨q, rfl⟩ := jVr_ref hv
  refine lv_aload_n hc.1 hc.2.1 hd rfl hw ?_
  exact h1 _ _ _ _ _ _ _ _ (jRel_pv hr0 hv)
theorem jr_iload {k : Nat} (hc : jCx p R s mi args meth c A H0 Ts z fu sb g) (hd : decode (jBy z) pc = .ok (.iload k, 2)) (h : jStp z C (jP p l e R s mi args below meth c Qf D A H0 z fu sb g n0 ws0) Q pc 2 ls m (jEff z (.iload k) 2 pc ls st m)) : jP p l e R s mi args below meth c Qf D A H0 z fu sb g n0 ws0 pc ls st m := by
  obtain ⟨a, ha, h1⟩ := jLi_inv h
  intro H locs cells slots ws tys lsR stR hr0
  obtain ⟨w, hw, ⟨x, rfl, hx⟩⟩ := jRel_at hr0 ha
  refine lv_iload hc.1 hc.2.1 hd  hw ?_
  exact h1 _ _ _ _ _ _ _ _ (jRel_pi hr0 hx)
theorem jr_lload {k : Nat} (hc : jCx p R s mi args meth c A H0 Ts z fu sb g) (hd : decode (jBy z) pc = .ok (.lload k, 2)) (h : jStp z C (jP p l e R s mi args below meth c Qf D A H0 z fu sb g n0 ws0) Q pc 2 ls m (jEff z (.lload k) 2 pc ls st m)) : jP p l e R s mi args below meth c Qf D A H0 z fu sb g n0 ws0 pc ls st m := by
  obtain ⟨a, ha, h1⟩ := jLl_inv h
  intro H locs cells slots ws tys lsR stR hr0
  obtain ⟨w, hw, ⟨x, rfl, hx⟩⟩ := jRel_at hr0 ha
  refine lv_lload hc.1 hc.2.1 hd  hw ?_
  exact h1 _ _ _ _ _ _ _ _ (jRel_pl hr0 hx)
theorem jr_aload {k : Nat} (hc : jCx p R s mi args meth c A H0 Ts z fu sb g) (hd : decode (jBy z) pc = .ok (.aload k, 2)) (h : jStp z C (jP p l e R s mi args below meth c Qf D A H0 z fu sb g n0 ws0) Q pc 2 ls m (jEff z (.aload k) 2 pc ls st m)) : jP p l e R s mi args below meth c Qf D A H0 z fu sb g n0 ws0 pc ls st m := by
  obtain ⟨a, ha, h1⟩ := jLa_inv h
  intro H locs cells slots ws tys lsR stR hr0
  obtain ⟨w, hw, hv⟩ := jRel_at hr0 ha
  obtain ⟨q, rfl⟩ := jVr_ref hv
  refine lv_aload hc.1 hc.2.1 hd  hw ?_
  exact h1 _ _ _ _ _ _ _ _ (jRel_pv hr0 hv)
theorem jr_istore_n {k : Fin 4} (hc : jCx p R s mi args meth c A H0 Ts z fu sb g) (hd : decode (jBy z) pc = .ok (.istore_n k, 1)) (h : jStp z C (jP p l e R s mi args below meth c Qf D A H0 z fu sb g n0 ws0) Q pc 1 ls m (jEff z (.istore k.val) 1 pc ls st m)) : jP p l e R s mi args below meth c Qf D A H0 z fu sb g n0 ws0 pc ls st m := by
  obtain ⟨a, r, rfl, h1⟩ := jI1_inv h
  obtain ⟨ls1, hs, h2⟩ := jLs_inv h1
  intro H locs cells slots ws tys lsR stR hr0
  obtain ⟨x, rR, rfl, rfl, hr1⟩ := jRel_i hr0
  obtain ⟨lv, k1, k2, -, k3⟩ := jRel_s1 (w := .int x) hr1 hs ⟨x, rfl, rfl⟩
  refine lv_istore_n hc.1 hc.2.1 hd rfl k1 k2 rfl (fun lsR2 hl => ?_)
  exact h2 _ _ _ _ _ _ _ _ (k3 lsR2 hl)
theorem jr_lstore_n {k : Fin 4} (hc : jCx p R s mi args meth c A H0 Ts z fu sb g) (hd : decode (jBy z) pc = .ok (.lstore_n k, 1)) (h : jStp z C (jP p l e R s mi args below meth c Qf D A H0 z fu sb g n0 ws0) Q pc 1 ls m (jEff z (.lstore k.val) 1 pc ls st m)) : jP p l e R s mi args below meth c Qf D A H0 z fu sb g n0 ws0 pc ls st m := by
  obtain ⟨a, r, rfl, h1⟩ := jL1_inv h
  obtain ⟨ls1, hs, h2⟩ := jLs_inv h1
  intro H locs cells slots ws tys lsR stR hr0
  obtain ⟨x, rR, rfl, rfl, hr1⟩ := jRel_l hr0
  obtain ⟨lv, k1, k2, k3⟩ := jRel_s2 (w := .long x) hr1 hs ⟨x, rfl, rfl⟩
  refine lv_lstore_n hc.1 hc.2.1 hd rfl k1 k2 rfl (fun lsR2 hl => ?_)
  exact h2 _ _ _ _ _ _ _ _ (k3 lsR2 hl)
theorem jr_astore_n {k : Fin 4} (hc : jCx p R s mi args meth c A H0 Ts z fu sb g) (hd : decode (jBy z) pc = .ok (.astore_n k, 1)) (h : jStp z C (jP p l e R s mi args below meth c Qf D A H0 z fu sb g n0 ws0) Q pc 1 ls m (jEff z (.astore k.val) 1 pc ls st m)) : jP p l e R s mi args below meth c Qf D A H0 z fu sb g n0 ws0 pc ls st m := by
  obtain ⟨a, r, rfl, h1⟩ := jR1_inv h
  obtain ⟨ls1, hs, h2⟩ := jLs_inv h1
  intro H locs cells slots ws tys lsR stR hr0
  obtain ⟨q, rR, rfl, hv, hr1⟩ := jRel_r hr0
  obtain ⟨lv, k1, k2, -, k3⟩ := jRel_s1 (w := .ref q) hr1 hs hv
  refine lv_astore_n hc.1 hc.2.1 hd rfl k1 k2 rfl (fun lsR2 hl => ?_)
  exact h2 _ _ _ _ _ _ _ _ (k3 lsR2 hl)
theorem jr_istore {k : Nat} (hc : jCx p R s mi args meth c A H0 Ts z fu sb g) (hd : decode (jBy z) pc = .ok (.istore k, 2)) (h : jStp z C (jP p l e R s mi args below meth c Qf D A H0 z fu sb g n0 ws0) Q pc 2 ls m (jEff z (.istore k) 2 pc ls st m)) : jP p l e R s mi args below meth c Qf D A H0 z fu sb g n0 ws0 pc ls st m := by
  obtain ⟨a, r, rfl, h1⟩ := jI1_inv h
  obtain ⟨ls1, hs, h2⟩ := jLs_inv h1
  intro H locs cells slots ws tys lsR stR hr0
  obtain ⟨x, rR, rfl, rfl, hr1⟩ := jRel_i hr0
  obtain ⟨lv, k1, k2, -, k3⟩ := jRel_s1 (w := .int x) hr1 hs ⟨x, rfl, rfl⟩
  refine lv_istore hc.1 hc.2.1 hd  k1 k2 rfl (fun lsR2 hl => ?_)
  exact h2 _ _ _ _ _ _ _ _ (k3 lsR2 hl)
theorem jr_lstore {k : Nat} (hc : jCx p R s mi args meth c A H0 Ts z fu sb g) (hd : decode (jBy z) pc = .ok (.lstore k, 2)) (h : jStp z C (jP p l e R s mi args below meth c Qf D A H0 z fu sb g n0 ws0) Q pc 2 ls m (jEff z (.lstore k) 2 pc ls st m)) : jP p l e R s mi args below meth c Qf D A H0 z fu sb g n0 ws0 pc ls st m := by
  obtain ⟨a, r, rfl, h1⟩ := jL1_inv h
  obtain ⟨ls1, hs, h2⟩ := jLs_inv h1
  intro H locs cells slots ws tys lsR stR hr0
  obtain ⟨x, rR, rfl, rfl, hr1⟩ := jRel_l hr0
  obtain ⟨lv, k1, k2, k3⟩ := jRel_s2 (w := .long x) hr1 hs ⟨x, rfl, rfl⟩
  refine lv_lstore hc.1 hc.2.1 hd  k1 k2 rfl (fun lsR2 hl => ?_)
  exact h2 _ _ _ _ _ _ _ _ (k3 lsR2 hl)
theorem jr_astore {k : Nat} (hc : jCx p R s mi args meth c A H0 Ts z fu sb g) (hd : decode (jBy z) pc = .ok (.astore k, 2)) (h : jStp z C (jP p l e R s mi args below meth c Qf D A H0 z fu sb g n0 ws0) Q pc 2 ls m (jEff z (.astore k) 2 pc ls st m)) : jP p l e R s mi args below meth c Qf D A H0 z fu sb g n0 ws0 pc ls st m := by
  obtain ⟨a, r, rfl, h1⟩ := jR1_inv h
  obtain ⟨ls1, hs, h2⟩ := jLs_inv h1
  intro H locs cells slots ws tys lsR stR hr0
  obtain ⟨q, rR, rfl, hv, hr1⟩ := jRel_r hr0
  obtain ⟨lv, k1, k2, -, k3⟩ := jRel_s1 (w := .ref q) hr1 hs hv
  refine lv_astore hc.1 hc.2.1 hd  k1 k2 rfl (fun lsR2 hl => ?_)
  exact h2 _ _ _ _ _ _ _ _ (k3 lsR2 hl)
theorem jr_iinc {k : Nat} {n : Int} (hc : jCx p R s mi args meth c A H0 Ts z fu sb g) (hd : decode (jBy z) pc = .ok (.iinc k n, 3)) (h : jStp z C (jP p l e R s mi args below meth c Qf D A H0 z fu sb g n0 ws0) Q pc 3 ls m (jEff z (.iinc k n) 3 pc ls st m)) : jP p l e R s mi args below meth c Qf D A H0 z fu sb g n0 ws0 pc ls st m := by
  obtain ⟨a, ha, h1⟩ := jLi_inv h
  obtain ⟨ls1, hs, h2⟩ := jLs_inv h1
  intro H locs cells slots ws tys lsR stR hr0
  obtain ⟨lv, k1, k2, k4, k3⟩ := jRel_s1 (w := .int (Int32.ofInt (w32 (a + n)))) hr0 hs ⟨_, rfl, jn_w32 _⟩
  obtain ⟨w, hw, x, rfl, rfl⟩ := k4 k _ ha
  obtain ⟨j, hj⟩ := List.getElem?_of_mem hw
  refine lv_iinc (v := Int32.ofInt (w32 (x.toInt + n))) hc.1 hc.2.1 hd k1 hj (by rw [jn_iinc, jn_ofI]) k2 rfl (fun lsR2 hl => ?_)
  exact h2 _ _ _ _ _ _ _ _ (k3 lsR2 hl)
theorem jr_iconst {v : Int} (hv : v.bmod 4294967296 = v) (hc : jCx p R s mi args meth c A H0 Ts z fu sb g) (hd : decode (jBy z) pc = .ok (.iconst v, 1)) (h : jStp z C (jP p l e R s mi args below meth c Qf D A H0 z fu sb g n0 ws0) Q pc 1 ls m (jEff z (.iconst v) 1 pc ls st m)) : jP p l e R s mi args below meth c Qf D A H0 z fu sb g n0 ws0 pc ls st m := by
  intro H locs cells slots ws tys lsR stR hr0
  refine lv_iconst hc.1 hc.2.1 hd rfl ?_
  exact h _ _ _ _ _ _ _ _ (jRel_pi hr0 (jn_iconst hv))
theorem jr_bipush {v : Int} (hv : v.bmod 256 = v) (hc : jCx p R s mi args meth c A H0 Ts z fu sb g) (hd : decode (jBy z) pc = .ok (.bipush v, 2)) (h : jStp z C (jP p l e R s mi args below meth c Qf D A H0 z fu sb g n0 ws0) Q pc 2 ls m (jEff z (.iconst v) 2 pc ls st m)) : jP p l e R s mi args below meth c Qf D A H0 z fu sb g n0 ws0 pc ls st m := by
  intro H locs cells slots ws tys lsR stR hr0
  refine lv_bipush hc.1 hc.2.1 hd rfl ?_
  exact h _ _ _ _ _ _ _ _ (jRel_pi hr0 (jn_bipush hv))
theorem jr_sipush {v : Int} (hv : v.bmod 65536 = v) (hc : jCx p R s mi args meth c A H0 Ts z fu sb g) (hd : decode (jBy z) pc = .ok (.sipush v, 3)) (h : jStp z C (jP p l e R s mi args below meth c Qf D A H0 z fu sb g n0 ws0) Q pc 3 ls m (jEff z (.iconst v) 3 pc ls st m)) : jP p l e R s mi args below meth c Qf D A H0 z fu sb g n0 ws0 pc ls st m := by
  intro H locs cells slots ws tys lsR stR hr0
  refine lv_sipush hc.1 hc.2.1 hd rfl ?_
  exact h _ _ _ _ _ _ _ _ (jRel_pi hr0 (jn_sipush hv))
theorem jr_lconst {k : Fin 2} (hc : jCx p R s mi args meth c A H0 Ts z fu sb g) (hd : decode (jBy z) pc = .ok (.lconst k, 1)) (h : jStp z C (jP p l e R s mi args below meth c Qf D A H0 z fu sb g n0 ws0) Q pc 1 ls m (jEff z (.sipush (k.val : Int)) 1 pc ls st m)) : jP p l e R s mi args below meth c Qf D A H0 z fu sb g n0 ws0 pc ls st m := by
  intro H locs cells slots ws tys lsR stR hr0
  refine lv_lconst hc.1 hc.2.1 hd rfl ?_
  exact h _ _ _ _ _ _ _ _ (jRel_pl hr0 (jn_lconst k))
theorem jr_ldc2 {i : Nat} {v : Int} (hw : Jvm.Cond.constantLong (jRn (jCl z)) i (Int64.ofInt v) ∈ jBW) (hv : (Int64.ofInt v).toInt = v) (hc : jCx p R s mi args meth c A H0 Ts z fu sb g) (hd : decode (jBy z) pc = .ok (.ldc2_w i, 3)) (h : jStp z C (jP p l e R s mi args below meth c Qf D A H0 z fu sb g n0 ws0) Q pc 3 ls m (jEff z (.sipush v) 3 pc ls st m)) : jP p l e R s mi args below meth c Qf D A H0 z fu sb g n0 ws0 pc ls st m := by
  intro H locs cells slots ws tys lsR stR hr0
  refine lv_ldc2 hc.1 hc.2.1 hc.2.2.2.1 (hc.2.2.2.2.1 _ (hc.2.2.2.2.2.1 _ hw)) hd ?_
  exact h _ _ _ _ _ _ _ _ (jRel_pl hr0 hv.symm)
theorem jr_ldc {i : Nat} {v : Int} (hw : Jvm.Cond.constant (jRn (jCl z)) i (Int32.ofInt v) ∈ jBW) (hv : (Int32.ofInt v).toInt = v) (hc : jCx p R s mi args meth c A H0 Ts z fu sb g) (hd : decode (jBy z) pc = .ok (.ldc i, 2)) (h : jStp z C (jP p l e R s mi args below meth c Qf D A H0 z fu sb g n0 ws0) Q pc 2 ls m (jEff z (.iconst v) 2 pc ls st m)) : jP p l e R s mi args below meth c Qf D A H0 z fu sb g n0 ws0 pc ls st m := by
  intro H locs cells slots ws tys lsR stR hr0
  refine lv_ldc hc.1 hc.2.1 hc.2.2.2.1 (hc.2.2.2.2.1 _ (hc.2.2.2.2.2.1 _ hw)) hd ?_
  exact h _ _ _ _ _ _ _ _ (jRel_pi hr0 hv.symm)
theorem jr_ldc_w {i : Nat} {v : Int} (hw : Jvm.Cond.constant (jRn (jCl z)) i (Int32.ofInt v) ∈ jBW) (hv : (Int32.ofInt v).toInt = v) (hc : jCx p R s mi args meth c A H0 Ts z fu sb g) (hd : decode (jBy z) pc = .ok (.ldc_w i, 3)) (h : jStp z C (jP p l e R s mi args below meth c Qf D A H0 z fu sb g n0 ws0) Q pc 3 ls m (jEff z (.iconst v) 3 pc ls st m)) : jP p l e R s mi args below meth c Qf D A H0 z fu sb g n0 ws0 pc ls st m := by
  intro H locs cells slots ws tys lsR stR hr0
  refine lv_ldcw hc.1 hc.2.1 hc.2.2.2.1 (hc.2.2.2.2.1 _ (hc.2.2.2.2.2.1 _ hw)) hd ?_
  exact h _ _ _ _ _ _ _ _ (jRel_pi hr0 hv.symm)
theorem jr_dup (hc : jCx p R s mi args meth c A H0 Ts z fu sb g) (hd : decode (jBy z) pc = .ok (.dup, 1)) (h : jStp z C (jP p l e R s mi args below meth c Qf D A H0 z fu sb g n0 ws0) Q pc 1 ls m (jEff z (.dup) 1 pc ls st m)) : jP p l e R s mi args below meth c Qf D A H0 z fu sb g n0 ws0 pc ls st m := by
  obtain ⟨a, r, rfl, h1⟩ := jR1_inv h
  intro H locs cells slots ws tys lsR stR hr0
  obtain ⟨q, rR, rfl, hv, hr1⟩ := jRel_r hr0
  refine lv_dup hc.1 hc.2.1 hd rfl ?_
  exact h1 _ _ _ _ _ _ _ _ (jRel_pv (jRel_pv hr1 hv) hv)
theorem jr_dup2 (hc : jCx p R s mi args meth c A H0 Ts z fu sb g) (hd : decode (jBy z) pc = .ok (.dup2, 1)) (h : jStp z C (jP p l e R s mi args below meth c Qf D A H0 z fu sb g n0 ws0) Q pc 1 ls m (jEff z (.dup2) 1 pc ls st m)) : jP p l e R s mi args below meth c Qf D A H0 z fu sb g n0 ws0 pc ls st m := by
  obtain ⟨a, r, rfl, h1⟩ := jI1_inv h
  obtain ⟨b, r, rfl, h2⟩ := jR1_inv h1
  intro H locs cells slots ws tys lsR stR hr0
  obtain ⟨x, rR, rfl, hx, hr1⟩ := jRel_i hr0
  obtain ⟨q, rR, rfl, hv, hr2⟩ := jRel_r hr1
  refine lv_dup2_11 hc.1 hc.2.1 hd rfl rfl ?_
  exact h2 _ _ _ _ _ _ _ _ (jRel_pi (jRel_pv (jRel_pi (jRel_pv hr2 hv) hx) hv) hx)
theorem jr_pop2 (hc : jCx p R s mi args meth c A H0 Ts z fu sb g) (hd : decode (jBy z) pc = .ok (.pop2, 1)) (h : jStp z C (jP p l e R s mi args below meth c Qf D A H0 z fu sb g n0 ws0) Q pc 1 ls m (jEff z (.pop2) 1 pc ls st m)) : jP p l e R s mi args below meth c Qf D A H0 z fu sb g n0 ws0 pc ls st m := by
  obtain ⟨a, r, rfl, h1⟩ := jL1_inv h
  intro H locs cells slots ws tys lsR stR hr0
  obtain ⟨x, rR, rfl, hx, hr1⟩ := jRel_l hr0
  refine lv_pop2_2 hc.1 hc.2.1 hd rfl ?_
  exact h1 _ _ _ _ _ _ _ _ hr1
theorem jr_goto {off : Int} (ho : 0 ≤ jTo pc off) (hc : jCx p R s mi args meth c A H0 Ts z fu sb g) (hd : decode (jBy z) pc = .ok (.goto off, 3)) (h : jStp z C (jP p l e R s mi args below meth c Qf D A H0 z fu sb g n0 ws0) Q pc 3 ls m (jEff z (.goto (jTo pc off)) 3 pc ls st m)) : jP p l e R s mi args below meth c Qf D A H0 z fu sb g n0 ws0 pc ls st m := by
  intro H locs cells slots ws tys lsR stR hr0
  refine lv_goto hc.1 hc.2.1 hd (tgt := (jTo pc off).toNat) (by unfold jTo at ho ⊢; omega) ?_
  exact h _ _ _ _ _ _ _ _ hr0
theorem jr_icmp_eq {off : Int} (ho : 0 ≤ jTo pc off) (hc : jCx p R s mi args meth c A H0 Ts z fu sb g) (hd : decode (jBy z) pc = .ok (.if_icmp .eq off, 3)) (h : jStp z C (jP p l e R s mi args below meth c Qf D A H0 z fu sb g n0 ws0) Q pc 3 ls m (jEff z (.if_icmp .eq (jTo pc off)) 3 pc ls st m)) : jP p l e R s mi args below meth c Qf D A H0 z fu sb g n0 ws0 pc ls st m := by
  obtain ⟨b, r, rfl, h1⟩ := jI1_inv h
  obtain ⟨a, r, rfl, h2⟩ := jI1_inv h1
  intro H locs cells slots ws tys lsR stR hr0
  obtain ⟨y, rR, rfl, rfl, hr1⟩ := jRel_i hr0
  obtain ⟨x, rR, rfl, rfl, hr2⟩ := jRel_i hr1
  have e1 := @jn_eq x y
  have e2 := @jn_lt x y
  have e3 := @jn_le x y
  have e4 := @jn_lt y x
  have e5 := @jn_le y x
  refine lv_icmp_eq hc.1 hc.2.1 hd (tgt := (jTo pc off).toNat) (by unfold jTo at ho ⊢; omega) (fun q => ?_) (fun q => ?_)
  · exact h2.1 (e1.mp q) _ _ _ _ _ _ _ _ hr2
  · exact h2.2 (fun q2 => q (e1.mpr q2)) _ _ _ _ _ _ _ _ hr2
theorem jr_if_eq {off : Int} (ho : 0 ≤ jTo pc off) (hc : jCx p R s mi args meth c A H0 Ts z fu sb g) (hd : decode (jBy z) pc = .ok (.ifCond .eq off, 3)) (h : jStp z C (jP p l e R s mi args below meth c Qf D A H0 z fu sb g n0 ws0) Q pc 3 ls m (jEff z (.ifCond .eq (jTo pc off)) 3 pc ls st m)) : jP p l e R s mi args below meth c Qf D A H0 z fu sb g n0 ws0 pc ls st m := by
  obtain ⟨a, r, rfl, h1⟩ := jI1_inv h
  intro H locs cells slots ws tys lsR stR hr0
  obtain ⟨x, rR, rfl, rfl, hr1⟩ := jRel_i hr0
  have e1 := @jn_eq x 0
  have e2 := @jn_lt x 0
  have e3 := @jn_le x 0
  have e4 := @jn_lt 0 x
  have e5 := @jn_le 0 x
  rw [jn_0] at e1 e2 e3 e4 e5
  refine lv_if_eq hc.1 hc.2.1 hd (tgt := (jTo pc off).toNat) (by unfold jTo at ho ⊢; omega) (fun q => ?_) (fun q => ?_)
  · exact h1.1 (e1.mp q) _ _ _ _ _ _ _ _ hr1
  · exact h1.2 (fun q2 => q (e1.mpr q2)) _ _ _ _ _ _ _ _ hr1
theorem jr_lcmp_eq {off : Int} (ho : 0 ≤ jTo (pc + 1) off) (hc : jCx p R s mi args meth c A H0 Ts z fu sb g) (hd : decode (jBy z) pc = .ok (.lcmp, 1)) (hd2 : decode (jBy z) (pc + 1) = .ok (.ifCond .eq off, 3)) (h : jStp z C (jP p l e R s mi args below meth c Qf D A H0 z fu sb g n0 ws0) Q pc 4 ls m (jEff z (.multianewarray 0 (jTo (pc + 1) off).toNat) 4 pc ls st m)) : jP p l e R s mi args below meth c Qf D A H0 z fu sb g n0 ws0 pc ls st m := by
  obtain ⟨b, r, rfl, h1⟩ := jL1_inv h
  obtain ⟨a, r, rfl, h2⟩ := jL1_inv h1
  intro H locs cells slots ws tys lsR stR hr0
  obtain ⟨y, rR, rfl, rfl, hr1⟩ := jRel_l hr0
  obtain ⟨x, rR, rfl, rfl, hr2⟩ := jRel_l hr1
  have ec := jn_cmp x y
  have e1 := @jn_eq (lg_cmp x y) 0
  have e2 := @jn_lt (lg_cmp x y) 0
  have e3 := @jn_le (lg_cmp x y) 0
  have e4 := @jn_lt 0 (lg_cmp x y)
  have e5 := @jn_le 0 (lg_cmp x y)
  rw [jn_0, ec] at e1 e2 e3 e4 e5
  refine W.lcmp hc.1 hc.2.1 hd ?_
  refine lv_if_eq hc.1 hc.2.1 hd2 (tgt := (jTo (pc + 1) off).toNat) (by unfold jTo at ho ⊢; omega) (fun q => ?_) (fun q => ?_)
  · exact h2.1 (by have := e1.mp q; split at this <;> first | omega | (split at this <;> omega)) _ _ _ _ _ _ _ _ hr2
  · exact h2.2 (fun q2 => q (e1.mpr (by rw [if_neg (by omega), if_pos q2]))) _ _ _ _ _ _ _ _ hr2
theorem jr_icmp_ne {off : Int} (ho : 0 ≤ jTo pc off) (hc : jCx p R s mi args meth c A H0 Ts z fu sb g) (hd : decode (jBy z) pc = .ok (.if_icmp .ne off, 3)) (h : jStp z C (jP p l e R s mi args below meth c Qf D A H0 z fu sb g n0 ws0) Q pc 3 ls m (jEff z (.if_icmp .ne (jTo pc off)) 3 pc ls st m)) : jP p l e R s mi args below meth c Qf D A H0 z fu sb g n0 ws0 pc ls st m := by
  obtain ⟨b, r, rfl, h1⟩ := jI1_inv h
  obtain ⟨a, r, rfl, h2⟩ := jI1_inv h1
  intro H locs cells slots ws tys lsR stR hr0
  obtain ⟨y, rR, rfl, rfl, hr1⟩ := jRel_i hr0
  obtain ⟨x, rR, rfl, rfl, hr2⟩ := jRel_i hr1
  have e1 := @jn_eq x y
  have e2 := @jn_lt x y
  have e3 := @jn_le x y
  have e4 := @jn_lt y x
  have e5 := @jn_le y x
  refine lv_icmp_ne hc.1 hc.2.1 hd (tgt := (jTo pc off).toNat) (by unfold jTo at ho ⊢; omega) (fun q => ?_) (fun q => ?_)
  · exact h2.2 (fun q2 => q (e1.mpr q2)) _ _ _ _ _ _ _ _ hr2
  · exact h2.1 (e1.mp q) _ _ _ _ _ _ _ _ hr2
theorem jr_if_ne {off : Int} (ho : 0 ≤ jTo pc off) (hc : jCx p R s mi args meth c A H0 Ts z fu sb g) (hd : decode (jBy z) pc = .ok (.ifCond .ne off, 3)) (h : jStp z C (jP p l e R s mi args below meth c Qf D A H0 z fu sb g n0 ws0) Q pc 3 ls m (jEff z (.ifCond .ne (jTo pc off)) 3 pc ls st m)) : jP p l e R s mi args below meth c Qf D A H0 z fu sb g n0 ws0 pc ls st m := by
  obtain ⟨a, r, rfl, h1⟩ := jI1_inv h
  intro H locs cells slots ws tys lsR stR hr0
  obtain ⟨x, rR, rfl, rfl, hr1⟩ := jRel_i hr0
  have e1 := @jn_eq x 0
  have e2 := @jn_lt x 0
  have e3 := @jn_le x 0
  have e4 := @jn_lt 0 x
  have e5 := @jn_le 0 x
  rw [jn_0] at e1 e2 e3 e4 e5
  refine lv_if_ne hc.1 hc.2.1 hd (tgt := (jTo pc off).toNat) (by unfold jTo at ho ⊢; omega) (fun q => ?_) (fun q => ?_)
  · exact h1.2 (fun q2 => q (e1.mpr q2)) _ _ _ _ _ _ _ _ hr1
  · exact h1.1 (e1.mp q) _ _ _ _ _ _ _ _ hr1
theorem jr_lcmp_ne {off : Int} (ho : 0 ≤ jTo (pc + 1) off) (hc : jCx p R s mi args meth c A H0 Ts z fu sb g) (hd : decode (jBy z) pc = .ok (.lcmp, 1)) (hd2 : decode (jBy z) (pc + 1) = .ok (.ifCond .ne off, 3)) (h : jStp z C (jP p l e R s mi args below meth c Qf D A H0 z fu sb g n0 ws0) Q pc 4 ls m (jEff z (.multianewarray 1 (jTo (pc + 1) off).toNat) 4 pc ls st m)) : jP p l e R s mi args below meth c Qf D A H0 z fu sb g n0 ws0 pc ls st m := by
  obtain ⟨b, r, rfl, h1⟩ := jL1_inv h
  obtain ⟨a, r, rfl, h2⟩ := jL1_inv h1
  intro H locs cells slots ws tys lsR stR hr0
  obtain ⟨y, rR, rfl, rfl, hr1⟩ := jRel_l hr0
  obtain ⟨x, rR, rfl, rfl, hr2⟩ := jRel_l hr1
  have ec := jn_cmp x y
  have e1 := @jn_eq (lg_cmp x y) 0
  have e2 := @jn_lt (lg_cmp x y) 0
  have e3 := @jn_le (lg_cmp x y) 0
  have e4 := @jn_lt 0 (lg_cmp x y)
  have e5 := @jn_le 0 (lg_cmp x y)
  rw [jn_0, ec] at e1 e2 e3 e4 e5
  refine W.lcmp hc.1 hc.2.1 hd ?_
  refine lv_if_ne hc.1 hc.2.1 hd2 (tgt := (jTo (pc + 1) off).toNat) (by unfold jTo at ho ⊢; omega) (fun q => ?_) (fun q => ?_)
  · exact h2.2 (fun q2 => q (e1.mpr (by rw [if_neg (by omega), if_pos q2]))) _ _ _ _ _ _ _ _ hr2
  · exact h2.1 (by have := e1.mp q; split at this <;> first | omega | (split at this <;> omega)) _ _ _ _ _ _ _ _ hr2
theorem jr_icmp_lt {off : Int} (ho : 0 ≤ jTo pc off) (hc : jCx p R s mi args meth c A H0 Ts z fu sb g) (hd : decode (jBy z) pc = .ok (.if_icmp .lt off, 3)) (h : jStp z C (jP p l e R s mi args below meth c Qf D A H0 z fu sb g n0 ws0) Q pc 3 ls m (jEff z (.if_icmp .lt (jTo pc off)) 3 pc ls st m)) : jP p l e R s mi args below meth c Qf D A H0 z fu sb g n0 ws0 pc ls st m := by
  obtain ⟨b, r, rfl, h1⟩ := jI1_inv h
  obtain ⟨a, r, rfl, h2⟩ := jI1_inv h1
  intro H locs cells slots ws tys lsR stR hr0
  obtain ⟨y, rR, rfl, rfl, hr1⟩ := jRel_i hr0
  obtain ⟨x, rR, rfl, rfl, hr2⟩ := jRel_i hr1
  have e1 := @jn_eq x y
  have e2 := @jn_lt x y
  have e3 := @jn_le x y
  have e4 := @jn_lt y x
  have e5 := @jn_le y x
  refine lv_icmp_lt hc.1 hc.2.1 hd (tgt := (jTo pc off).toNat) (by unfold jTo at ho ⊢; omega) (fun q => ?_) (fun q => ?_)
  · exact h2.1 (e2.mp q) _ _ _ _ _ _ _ _ hr2
  · exact h2.2 (fun q2 => q (e2.mpr q2)) _ _ _ _ _ _ _ _ hr2
theorem jr_if_lt {off : Int} (ho : 0 ≤ jTo pc off) (hc : jCx p R s mi args meth c A H0 Ts z fu sb g) (hd : decode (jBy z) pc = .ok (.ifCond .lt off, 3)) (h : jStp z C (jP p l e R s mi args below meth c Qf D A H0 z fu sb g n0 ws0) Q pc 3 ls m (jEff z (.ifCond .lt (jTo pc off)) 3 pc ls st m)) : jP p l e R s mi args below meth c Qf D A H0 z fu sb g n0 ws0 pc ls st m := by
  obtain ⟨a, r, rfl, h1⟩ := jI1_inv h
  intro H locs cells slots ws tys lsR stR hr0
  obtain ⟨x, rR, rfl, rfl, hr1⟩ := jRel_i hr0
  have e1 := @jn_eq x 0
  have e2 := @jn_lt x 0
  have e3 := @jn_le x 0
  have e4 := @jn_lt 0 x
  have e5 := @jn_le 0 x
  rw [jn_0] at e1 e2 e3 e4 e5
  refine lv_if_lt hc.1 hc.2.1 hd (tgt := (jTo pc off).toNat) (by unfold jTo at ho ⊢; omega) (fun q => ?_) (fun q => ?_)
  · exact h1.1 (e2.mp q) _ _ _ _ _ _ _ _ hr1
  · exact h1.2 (fun q2 => q (e2.mpr q2)) _ _ _ _ _ _ _ _ hr1
theorem jr_lcmp_lt {off : Int} (ho : 0 ≤ jTo (pc + 1) off) (hc : jCx p R s mi args meth c A H0 Ts z fu sb g) (hd : decode (jBy z) pc = .ok (.lcmp, 1)) (hd2 : decode (jBy z) (pc + 1) = .ok (.ifCond .lt off, 3)) (h : jStp z C (jP p l e R s mi args below meth c Qf D A H0 z fu sb g n0 ws0) Q pc 4 ls m (jEff z (.multianewarray 2 (jTo (pc + 1) off).toNat) 4 pc ls st m)) : jP p l e R s mi args below meth c Qf D A H0 z fu sb g n0 ws0 pc ls st m := by
  obtain ⟨b, r, rfl, h1⟩ := jL1_inv h
  obtain ⟨a, r, rfl, h2⟩ := jL1_inv h1
  intro H locs cells slots ws tys lsR stR hr0
  obtain ⟨y, rR, rfl, rfl, hr1⟩ := jRel_l hr0
  obtain ⟨x, rR, rfl, rfl, hr2⟩ := jRel_l hr1
  have ec := jn_cmp x y
  have e1 := @jn_eq (lg_cmp x y) 0
  have e2 := @jn_lt (lg_cmp x y) 0
  have e3 := @jn_le (lg_cmp x y) 0
  have e4 := @jn_lt 0 (lg_cmp x y)
  have e5 := @jn_le 0 (lg_cmp x y)
  rw [jn_0, ec] at e1 e2 e3 e4 e5
  refine W.lcmp hc.1 hc.2.1 hd ?_
  refine lv_if_lt hc.1 hc.2.1 hd2 (tgt := (jTo (pc + 1) off).toNat) (by unfold jTo at ho ⊢; omega) (fun q => ?_) (fun q => ?_)
  · exact h2.1 (by have := e2.mp q; split at this <;> first | omega | (split at this <;> omega)) _ _ _ _ _ _ _ _ hr2
  · exact h2.2 (fun q2 => q (e2.mpr (by rw [if_neg (by omega), if_neg (by omega)]; omega))) _ _ _ _ _ _ _ _ hr2
theorem jr_icmp_ge {off : Int} (ho : 0 ≤ jTo pc off) (hc : jCx p R s mi args meth c A H0 Ts z fu sb g) (hd : decode (jBy z) pc = .ok (.if_icmp .ge off, 3)) (h : jStp z C (jP p l e R s mi args below meth c Qf D A H0 z fu sb g n0 ws0) Q pc 3 ls m (jEff z (.if_icmp .ge (jTo pc off)) 3 pc ls st m)) : jP p l e R s mi args below meth c Qf D A H0 z fu sb g n0 ws0 pc ls st m := by
  obtain ⟨b, r, rfl, h1⟩ := jI1_inv h
  obtain ⟨a, r, rfl, h2⟩ := jI1_inv h1
  intro H locs cells slots ws tys lsR stR hr0
  obtain ⟨y, rR, rfl, rfl, hr1⟩ := jRel_i hr0
  obtain ⟨x, rR, rfl, rfl, hr2⟩ := jRel_i hr1
  have e1 := @jn_eq x y
  have e2 := @jn_lt x y
  have e3 := @jn_le x y
  have e4 := @jn_lt y x
  have e5 := @jn_le y x
  refine lv_icmp_ge hc.1 hc.2.1 hd (tgt := (jTo pc off).toNat) (by unfold jTo at ho ⊢; omega) (fun q => ?_) (fun q => ?_)
  · exact h2.2 (fun q2 => by have := e5.mp q; omega) _ _ _ _ _ _ _ _ hr2
  · exact h2.1 (by have := mt e5.mpr q; omega) _ _ _ _ _ _ _ _ hr2
theorem jr_if_ge {off : Int} (ho : 0 ≤ jTo pc off) (hc : jCx p R s mi args meth c A H0 Ts z fu sb g) (hd : decode (jBy z) pc = .ok (.ifCond .ge off, 3)) (h : jStp z C (jP p l e R s mi args below meth c Qf D A H0 z fu sb g n0 ws0) Q pc 3 ls m (jEff z (.ifCond .ge (jTo pc off)) 3 pc ls st m)) : jP p l e R s mi args below meth c Qf D A H0 z fu sb g n0 ws0 pc ls st m := by
  obtain ⟨a, r, rfl, h1⟩ := jI1_inv h
  intro H locs cells slots ws tys lsR stR hr0
  obtain ⟨x, rR, rfl, rfl, hr1⟩ := jRel_i hr0
  have e1 := @jn_eq x 0
  have e2 := @jn_lt x 0
  have e3 := @jn_le x 0
  have e4 := @jn_lt 0 x
  have e5 := @jn_le 0 x
  rw [jn_0] at e1 e2 e3 e4 e5
  refine lv_if_ge hc.1 hc.2.1 hd (tgt := (jTo pc off).toNat) (by unfold jTo at ho ⊢; omega) (fun q => ?_) (fun q => ?_)
  · exact h1.2 (fun q2 => by have := e5.mp q; omega) _ _ _ _ _ _ _ _ hr1
  · exact h1.1 (by have := mt e5.mpr q; omega) _ _ _ _ _ _ _ _ hr1
theorem jr_lcmp_ge {off : Int} (ho : 0 ≤ jTo (pc + 1) off) (hc : jCx p R s mi args meth c A H0 Ts z fu sb g) (hd : decode (jBy z) pc = .ok (.lcmp, 1)) (hd2 : decode (jBy z) (pc + 1) = .ok (.ifCond .ge off, 3)) (h : jStp z C (jP p l e R s mi args below meth c Qf D A H0 z fu sb g n0 ws0) Q pc 4 ls m (jEff z (.multianewarray 3 (jTo (pc + 1) off).toNat) 4 pc ls st m)) : jP p l e R s mi args below meth c Qf D A H0 z fu sb g n0 ws0 pc ls st m := by
  obtain ⟨b, r, rfl, h1⟩ := jL1_inv h
  obtain ⟨a, r, rfl, h2⟩ := jL1_inv h1
  intro H locs cells slots ws tys lsR stR hr0
  obtain ⟨y, rR, rfl, rfl, hr1⟩ := jRel_l hr0
  obtain ⟨x, rR, rfl, rfl, hr2⟩ := jRel_l hr1
  have ec := jn_cmp x y
  have e1 := @jn_eq (lg_cmp x y) 0
  have e2 := @jn_lt (lg_cmp x y) 0
  have e3 := @jn_le (lg_cmp x y) 0
  have e4 := @jn_lt 0 (lg_cmp x y)
  have e5 := @jn_le 0 (lg_cmp x y)
  rw [jn_0, ec] at e1 e2 e3 e4 e5
  refine W.lcmp hc.1 hc.2.1 hd ?_
  refine lv_if_ge hc.1 hc.2.1 hd2 (tgt := (jTo (pc + 1) off).toNat) (by unfold jTo at ho ⊢; omega) (fun q => ?_) (fun q => ?_)
  · exact h2.2 (fun q2 => by have := e5.mp q; rw [if_neg (by omega), if_neg (by omega)] at this; omega) _ _ _ _ _ _ _ _ hr2
  · exact h2.1 (by have := mt e5.mpr q; split at this <;> first | omega | (split at this <;> omega)) _ _ _ _ _ _ _ _ hr2
theorem jr_icmp_gt {off : Int} (ho : 0 ≤ jTo pc off) (hc : jCx p R s mi args meth c A H0 Ts z fu sb g) (hd : decode (jBy z) pc = .ok (.if_icmp .gt off, 3)) (h : jStp z C (jP p l e R s mi args below meth c Qf D A H0 z fu sb g n0 ws0) Q pc 3 ls m (jEff z (.if_icmp .gt (jTo pc off)) 3 pc ls st m)) : jP p l e R s mi args below meth c Qf D A H0 z fu sb g n0 ws0 pc ls st m := by
  obtain ⟨b, r, rfl, h1⟩ := jI1_inv h
  obtain ⟨a, r, rfl, h2⟩ := jI1_inv h1
  intro H locs cells slots ws tys lsR stR hr0
  obtain ⟨y, rR, rfl, rfl, hr1⟩ := jRel_i hr0
  obtain ⟨x, rR, rfl, rfl, hr2⟩ := jRel_i hr1
  have e1 := @jn_eq x y
  have e2 := @jn_lt x y
  have e3 := @jn_le x y
  have e4 := @jn_lt y x
  have e5 := @jn_le y x
  refine lv_icmp_gt hc.1 hc.2.1 hd (tgt := (jTo pc off).toNat) (by unfold jTo at ho ⊢; omega) (fun q => ?_) (fun q => ?_)
  · exact h2.1 (e4.mp q) _ _ _ _ _ _ _ _ hr2
  · exact h2.2 (fun q2 => q (e4.mpr q2)) _ _ _ _ _ _ _ _ hr2
theorem jr_if_gt {off : Int} (ho : 0 ≤ jTo pc off) (hc : jCx p R s mi args meth c A H0 Ts z fu sb g) (hd : decode (jBy z) pc = .ok (.ifCond .gt off, 3)) (h : jStp z C (jP p l e R s mi args below meth c Qf D A H0 z fu sb g n0 ws0) Q pc 3 ls m (jEff z (.ifCond .gt (jTo pc off)) 3 pc ls st m)) : jP p l e R s mi args below meth c Qf D A H0 z fu sb g n0 ws0 pc ls st m := by
  obtain ⟨a, r, rfl, h1⟩ := jI1_inv h
  intro H locs cells slots ws tys lsR stR hr0
  obtain ⟨x, rR, rfl, rfl, hr1⟩ := jRel_i hr0
  have e1 := @jn_eq x 0
  have e2 := @jn_lt x 0
  have e3 := @jn_le x 0
  have e4 := @jn_lt 0 x
  have e5 := @jn_le 0 x
  rw [jn_0] at e1 e2 e3 e4 e5
  refine lv_if_gt hc.1 hc.2.1 hd (tgt := (jTo pc off).toNat) (by unfold jTo at ho ⊢; omega) (fun q => ?_) (fun q => ?_)
  · exact h1.1 (e4.mp q) _ _ _ _ _ _ _ _ hr1
  · exact h1.2 (fun q2 => q (e4.mpr q2)) _ _ _ _ _ _ _ _ hr1
theorem jr_lcmp_gt {off : Int} (ho : 0 ≤ jTo (pc + 1) off) (hc : jCx p R s mi args meth c A H0 Ts z fu sb g) (hd : decode (jBy z) pc = .ok (.lcmp, 1)) (hd2 : decode (jBy z) (pc + 1) = .ok (.ifCond .gt off, 3)) (h : jStp z C (jP p l e R s mi args below meth c Qf D A H0 z fu sb g n0 ws0) Q pc 4 ls m (jEff z (.multianewarray 4 (jTo (pc + 1) off).toNat) 4 pc ls st m)) : jP p l e R s mi args below meth c Qf D A H0 z fu sb g n0 ws0 pc ls st m := by
  obtain ⟨b, r, rfl, h1⟩ := jL1_inv h
  obtain ⟨a, r, rfl, h2⟩ := jL1_inv h1
  intro H locs cells slots ws tys lsR stR hr0
  obtain ⟨y, rR, rfl, rfl, hr1⟩ := jRel_l hr0
  obtain ⟨x, rR, rfl, rfl, hr2⟩ := jRel_l hr1
  have ec := jn_cmp x y
  have e1 := @jn_eq (lg_cmp x y) 0
  have e2 := @jn_lt (lg_cmp x y) 0
  have e3 := @jn_le (lg_cmp x y) 0
  have e4 := @jn_lt 0 (lg_cmp x y)
  have e5 := @jn_le 0 (lg_cmp x y)
  rw [jn_0, ec] at e1 e2 e3 e4 e5
  refine W.lcmp hc.1 hc.2.1 hd ?_
  refine lv_if_gt hc.1 hc.2.1 hd2 (tgt := (jTo (pc + 1) off).toNat) (by unfold jTo at ho ⊢; omega) (fun q => ?_) (fun q => ?_)
  · exact h2.1 (by have := e4.mp q; split at this <;> first | omega | (split at this <;> omega)) _ _ _ _ _ _ _ _ hr2
  · exact h2.2 (fun q2 => q (e4.mpr (by rw [if_pos q2]; omega))) _ _ _ _ _ _ _ _ hr2
theorem jr_icmp_le {off : Int} (ho : 0 ≤ jTo pc off) (hc : jCx p R s mi args meth c A H0 Ts z fu sb g) (hd : decode (jBy z) pc = .ok (.if_icmp .le off, 3)) (h : jStp z C (jP p l e R s mi args below meth c Qf D A H0 z fu sb g n0 ws0) Q pc 3 ls m (jEff z (.if_icmp .le (jTo pc off)) 3 pc ls st m)) : jP p l e R s mi args below meth c Qf D A H0 z fu sb g n0 ws0 pc ls st m := by
  obtain ⟨b, r, rfl, h1⟩ := jI1_inv h
  obtain ⟨a, r, rfl, h2⟩ := jI1_inv h1
  intro H locs cells slots ws tys lsR stR hr0
  obtain ⟨y, rR, rfl, rfl, hr1⟩ := jRel_i hr0
  obtain ⟨x, rR, rfl, rfl, hr2⟩ := jRel_i hr1
  have e1 := @jn_eq x y
  have e2 := @jn_lt x y
  have e3 := @jn_le x y
  have e4 := @jn_lt y x
  have e5 := @jn_le y x
  refine lv_icmp_le hc.1 hc.2.1 hd (tgt := (jTo pc off).toNat) (by unfold jTo at ho ⊢; omega) (fun q => ?_) (fun q => ?_)
  · exact h2.2 (fun q2 => by have := e3.mp q; omega) _ _ _ _ _ _ _ _ hr2
  · exact h2.1 (by have := mt e3.mpr q; omega) _ _ _ _ _ _ _ _ hr2
theorem jr_if_le {off : Int} (ho : 0 ≤ jTo pc off) (hc : jCx p R s mi args meth c A H0 Ts z fu sb g) (hd : decode (jBy z) pc = .ok (.ifCond .le off, 3)) (h : jStp z C (jP p l e R s mi args below meth c Qf D A H0 z fu sb g n0 ws0) Q pc 3 ls m (jEff z (.ifCond .le (jTo pc off)) 3 pc ls st m)) : jP p l e R s mi args below meth c Qf D A H0 z fu sb g n0 ws0 pc ls st m := by
  obtain ⟨a, r, rfl, h1⟩ := jI1_inv h
  intro H locs cells slots ws tys lsR stR hr0
  obtain ⟨x, rR, rfl, rfl, hr1⟩ := jRel_i hr0
  have e1 := @jn_eq x 0
  have e2 := @jn_lt x 0
  have e3 := @jn_le x 0
  have e4 := @jn_lt 0 x
  have e5 := @jn_le 0 x
  rw [jn_0] at e1 e2 e3 e4 e5
  refine lv_if_le hc.1 hc.2.1 hd (tgt := (jTo pc off).toNat) (by unfold jTo at ho ⊢; omega) (fun q => ?_) (fun q => ?_)
  · exact h1.2 (fun q2 => by have := e3.mp q; omega) _ _ _ _ _ _ _ _ hr1
  · exact h1.1 (by have := mt e3.mpr q; omega) _ _ _ _ _ _ _ _ hr1
theorem jr_lcmp_le {off : Int} (ho : 0 ≤ jTo (pc + 1) off) (hc : jCx p R s mi args meth c A H0 Ts z fu sb g) (hd : decode (jBy z) pc = .ok (.lcmp, 1)) (hd2 : decode (jBy z) (pc + 1) = .ok (.ifCond .le off, 3)) (h : jStp z C (jP p l e R s mi args below meth c Qf D A H0 z fu sb g n0 ws0) Q pc 4 ls m (jEff z (.multianewarray 5 (jTo (pc + 1) off).toNat) 4 pc ls st m)) : jP p l e R s mi args below meth c Qf D A H0 z fu sb g n0 ws0 pc ls st m := by
  obtain ⟨b, r, rfl, h1⟩ := jL1_inv h
  obtain ⟨a, r, rfl, h2⟩ := jL1_inv h1
  intro H locs cells slots ws tys lsR stR hr0
  obtain ⟨y, rR, rfl, rfl, hr1⟩ := jRel_l hr0
  obtain ⟨x, rR, rfl, rfl, hr2⟩ := jRel_l hr1
  have ec := jn_cmp x y
  have e1 := @jn_eq (lg_cmp x y) 0
  have e2 := @jn_lt (lg_cmp x y) 0
  have e3 := @jn_le (lg_cmp x y) 0
  have e4 := @jn_lt 0 (lg_cmp x y)
  have e5 := @jn_le 0 (lg_cmp x y)
  rw [jn_0, ec] at e1 e2 e3 e4 e5
  refine W.lcmp hc.1 hc.2.1 hd ?_
  refine lv_if_le hc.1 hc.2.1 hd2 (tgt := (jTo (pc + 1) off).toNat) (by unfold jTo at ho ⊢; omega) (fun q => ?_) (fun q => ?_)
  · exact h2.2 (fun q2 => by have := e3.mp q; rw [if_pos q2] at this; omega) _ _ _ _ _ _ _ _ hr2
  · exact h2.1 (by have := mt e3.mpr q; split at this <;> first | omega | (split at this <;> omega)) _ _ _ _ _ _ _ _ hr2
/-! memory -/
theorem jHas_BW {c : Jvm.Cond} (h : c ∈ lw_tbl) (hg : goodWord c = true) : c ∈ jBW := List.mem_filter.mpr ⟨h, hg⟩
theorem jLookup_mem {β : Type} {l : List (Nat × β)} {i : Nat} {v : β} (h : l.lookup i = some v) : (i, v) ∈ l := by
  induction l with
  | nil => cases h
  | cons a l ih =>
    obtain ⟨a1, a2⟩ := a
    rw [List.lookup_cons] at h
    cases hb : (i == a1) with
    | true =>
      rw [hb] at h
      cases h
      have : i = a1 := by simpa using hb
      subst this
      exact List.mem_cons_self
    | false =>
      rw [hb] at h
      exact List.mem_cons_of_mem _ (ih h)
theorem jAll16 {α : Type} {L : List (List α)} {f : Nat → α → Bool} (h : (List.range 16).all (fun own => (L.getD own []).all (f own)) = true) {own : Nat} (ho : own < 16) {q : α} (hq : q ∈ L.getD own []) : f own q = true :=
  List.all_eq_true.mp (List.all_eq_true.mp h own (List.mem_range.mpr ho)) q hq
theorem jCf_ok {own i f w : Nat} (ho : own < 16) (h : (jCfs.getD own []).lookup i = some (f, w)) : Jvm.Cond.fieldLink (jRn own) i (jTf f).1 (jTf f).2.1 (jTf f).2.2.1 ∈ jBW ∧ jFc f < 12 ∧ jFj f < jNf (jFc f) ∧ jFf (jFc f) (jFj f) = f := by
  have := jAll16 jCf_all ho (jLookup_mem h)
  simp only [Bool.and_eq_true, decide_eq_true_eq] at this
  exact ⟨jHas_BW (jHas_mem this.1) rfl, this.2⟩
theorem jVc_at {c : Nat} (h : c < 12) : jVc[c]? = some (jRn c, jTc c, jNf c) := by
  match c, h with
  | 0, _ => rfl
  | 1, _ => rfl
  | 2, _ => rfl
  | 3, _ => rfl
  | 4, _ => rfl
  | 5, _ => rfl
  | 6, _ => rfl
  | 7, _ => rfl
  | 8, _ => rfl
  | 9, _ => rfl
  | 10, _ => rfl
  | 11, _ => rfl
theorem jLay_in {c : Nat} (h : c < 12) : ∀ w ∈ u_ws (jRn c) (jTc c) (jNf c), w ∈ jBW := by
  intro w hw
  obtain ⟨j, hj, rfl⟩ := List.mem_map.mp hw
  have h1 := List.all_eq_true.mp (List.all_eq_true.mp jLay_all c (List.mem_range.mpr h)) j hj
  refine jHas_BW (jHas_mem h1) ?_
  unfold u_lay
  split <;> rfl
theorem jFld_ok {c j : Nat} (hc : c < 12) (hj : j < jNf c) : jFc (jFf c j) = c ∧ jFj (jFf c j) = j ∧ jFg (jFf c j) ≤ 5 ∧ (jFg (jFf c j) = 0 → jTy c j = .int ∧ (jTc c j).2.2.2 = false) ∧ (jFg (jFf c j) = 1 → jTy c j = .long ∧ (jTc c j).2.2.2 = false) ∧ (jFg (jFf c j) = 2 → jTy c j = .boolean ∧ (jTc c j).2.2.2 = false) ∧ (jFg (jFf c j) = 5 → (jTy c j).isReference = true ∧ (jTc c j).2.2.2 = false) ∧ (3 ≤ jFg (jFf c j) ∧ jFg (jFf c j) ≤ 4 → (jTy c j).isReference = true ∧ (jTc c j).2.2.2 = true ∧ (jTc c j).1 = jRn c) :=
  of_decide_eq_true (List.all_eq_true.mp (List.all_eq_true.mp jFlds c (List.mem_range.mpr hc)) j (List.mem_range.mpr hj))
theorem jLay_ok {k j : Nat} (hk : k < 160) (hd : jKd k < 12) (hj : j < jNf (jKd k)) : (jFg (jFf (jKd k) j) = 3 → jKd ((k : Int) + jFo (jFf (jKd k) j)) = jFt (jFf (jKd k) j)) ∧ (jFg (jFf (jKd k) j) = 4 → jKd ((k : Int) + jFo (jFf (jKd k) j)) = 20 + jFt (jFf (jKd k) j) ∧ jLn ((k : Int) + jFo (jFf (jKd k) j)) = jFl (jFf (jKd k) j) ∧ jFt (jFf (jKd k) j) < 4) := by
  have h1 := List.all_eq_true.mp jLayR k (List.mem_range.mpr hk)
  rw [if_pos hd] at h1
  exact of_decide_eq_true (List.all_eq_true.mp h1 j (List.mem_range.mpr hj))
theorem jKd_ok {k : Nat} (hk : k < 160) : 0 ≤ jLn k ∧ jLn k ≤ 20000 ∧ (jKd k < 12 → (jLn k).toNat = jNf (jKd k)) ∧ (jKd k < 12 ∨ jKd k = 20 ∨ jKd k = 21 ∨ jKd k = 22 ∨ jKd k = 23) :=
  of_decide_eq_true (List.all_eq_true.mp jKd_ln k (List.mem_range.mpr hk))
theorem jRf_lt (hW : jWd fu ws tys m) {k : Int} {a : Nat} (h : jRf ws k a) : k.toNat < ws.length ∧ k.toNat < 160 ∧ (k.toNat : Int) = k := by
  obtain ⟨h0, e, he⟩ := h
  have hl : k.toNat < ws.length := (List.getElem?_eq_some_iff.mp he).1
  have := hW.2.1
  exact ⟨hl, by omega, by omega⟩
/-- the value of a field that is read -/
theorem jr_val (hW : jWd fu ws tys m) {k : Int} {q j f : Nat} {v : Value} (hr : jRf ws k q) (hd : jKd k < 12) (hj : j < jNf (jKd k)) (hf : jFf (jKd k) j = f) (hv : jFv fu ws k f (m k j) v) :
    ((jFg f = 0 ∨ jFg f = 2) → jVr ws sb (.inl (m k j)) v) ∧ (jFg f = 1 → jVr ws sb (.inr (.inl (m k j))) v) ∧ (jFg f = 3 → (fu = true ∨ m k j = k + jFo f) → jVr ws sb (.inr (.inr (.inl (jFt f, k + jFo f)))) v) ∧ (jFg f = 4 → (fu = true ∨ m k j = k + jFo f) → jVr ws sb (.inr (.inr (.inr (jFt f, (jFl f : Int), k + jFo f)))) v) ∧ (jFg f = 5 → fu = true → jVr ws sb (.inr (.inr (.inl (jFt f, m k j)))) v) := by
  obtain ⟨h1, h2, h3⟩ := jRf_lt hW hr
  have hL : (jFg f = 3 → jKd (k + jFo f) = jFt f) ∧ (jFg f = 4 → jKd (k + jFo f) = 20 + jFt f ∧ jLn (k + jFo f) = jFl f ∧ jFt f < 4) := by
    have := @jLay_ok k.toNat j h2 (by rw [h3]; exact hd) (by rw [h3]; exact hj)
    rw [h3, hf] at this
    exact this
  rcases hv with ⟨g, x, rfl, hx⟩ | ⟨g, x, rfl, hx⟩ | ⟨g, hv⟩ | ⟨g, hv⟩
  · exact ⟨fun _ => ⟨x, rfl, hx⟩, fun q => by omega, fun q => by omega, fun q => by omega, fun q => by omega⟩
  · exact ⟨fun q => by omega, fun _ => ⟨x, rfl, hx⟩, fun q => by omega, fun q => by omega, fun q => by omega⟩
  · refine ⟨fun q => by omega, fun q => by omega, fun q1 q2 => ?_, fun q1 q2 => ?_, fun q => by omega⟩
    · rcases hv with ⟨e1, e2, e3⟩ | ⟨e1, u, e2, e3⟩
      · rcases q2 with q2 | q2
        · rw [e1] at q2; cases q2
        · rw [e2] at q2; have := hr.1; omega
      · exact ⟨hL.1 q1, u, e2, by rw [← e1]; exact e3⟩
    · rcases hv with ⟨e1, e2, e3⟩ | ⟨e1, u, e2, e3⟩
      · rcases q2 with q2 | q2
        · rw [e1] at q2; cases q2
        · rw [e2] at q2; have := hr.1; omega
      · obtain ⟨l1, l2, l3⟩ := hL.2 q1
        exact Or.inl ⟨l3, l1, l2, u, e2, by rw [← e1]; exact e3⟩
  · refine ⟨fun q => by omega, fun q => by omega, fun q => by omega, fun q => by omega, fun q1 q2 => ?_⟩
    rcases hv with ⟨e1, e2, e3⟩ | ⟨e1, u, e2, e3⟩
    · rw [e1] at q2; cases q2
    · exact ⟨e1, u, e2, e3⟩
/-- the reading itself -/
theorem jr_rd (hc : jCx p R s mi args meth c A H0 Ts z fu sb g) {i f : Nat} (hz : jCl z < 16) (hl : Jvm.Cond.fieldLink (jRn (jCl z)) i (jTf f).1 (jTf f).2.1 (jTf f).2.2.1 ∈ jBW) (h12 : jFc f < 12) (hj : jFj f < jNf (jFc f)) (hf : jFf (jFc f) (jFj f) = f) {a : Int} {r : List jV} (hr : jRel R s D A H0 z fu sb g n0 ws0 H locs cells slots ws tys lsR stR ls (.inr (.inr (.inl (jFc f, a))) :: r) m) (hd : decode (jBy z) pc = .ok (.getfield i, 3)) :
    ∃ (q : Nat) (v : Value) (rR : List Value), stR = .ref q :: rR ∧ jRf ws a q ∧ jKd a = jFc f ∧ jFv fu ws a f (m a (jFj f)) v ∧ jRel R s D A H0 z fu sb g n0 ws0 H locs cells slots ws tys lsR rR ls r m ∧ (W p l e R s mi args below meth c H locs cells slots Qf (F0 mi (pc + 3) lsR (v :: rR)) → W p l e R s mi args below meth c H locs cells slots Qf (F0 mi pc lsR (.ref q :: rR))) := by
  obtain ⟨q, rR, rfl, ⟨hk, q', e1, hrf⟩, hr1⟩ := jRel_r hr
  cases e1
  have hW := hr1.1.2.2.2.2
  obtain ⟨vs, k1, k2, k3⟩ := jWd_obj hW hrf (by rw [hk]; exact h12)
  rw [hk] at k1 k2 k3
  obtain ⟨v, k4, k5⟩ := k3 (jFj f) hj
  rw [hf] at k5
  exact ⟨q, v, rR, rfl, hrf, hk, k5, hr1, fun kk => va_get (own := jRn (jCl z)) (ref := (jTf f).1) (C := jRn (jFc f)) (T := jTc (jFc f)) (N := jNf (jFc f)) (ci := jFc f) (ws := ws) hc.1 hc.2.1 hc.2.2.2.2.1 (fun w hw => hc.2.2.2.2.2.1 _ (jLay_in h12 w hw)) hc.2.2.2.1 hr1.1.2.2.1 hr1.1.1 a.toNat k1 (jVc_at h12) (jFj f) hj (hc.2.2.2.2.1 _ (hc.2.2.2.2.2.1 _ hl)) (fun _ hx => hx) k4 hd kk⟩
theorem jr_getfield (hc : jCx p R s mi args meth c A H0 Ts z fu sb g) {i f : Nat} (hz : jCl z < 16) (hl : Jvm.Cond.fieldLink (jRn (jCl z)) i (jTf f).1 (jTf f).2.1 (jTf f).2.2.1 ∈ jBW) (h12 : jFc f < 12) (hj : jFj f < jNf (jFc f)) (hf : jFf (jFc f) (jFj f) = f) (hd : decode (jBy z) pc = .ok (.getfield i, 3)) (h : jStp z C (jP p l e R s mi args below meth c Qf D A H0 z fu sb g n0 ws0) Q pc 3 ls m (jEff z (.getfield f) 3 pc ls st m)) : jP p l e R s mi args below meth c Qf D A H0 z fu sb g n0 ws0 pc ls st m := by
  obtain ⟨ci, a, r, rfl, h1⟩ := jO1_inv h
  unfold jGet at h1
  by_cases hci : ci = jFc f
  · subst hci
    rw [if_pos rfl] at h1
    intro H locs cells slots ws tys lsR stR hr
    obtain ⟨q, v, rR, rfl, hrf, hk, hv, hr1, kk⟩ := jr_rd (l := l) (e := e) (below := below) (Qf := Qf) hc hz hl h12 hj hf hr hd
    have hW := hr1.1.2.2.2.2
    obtain ⟨v0, v1, v3, v4, v5⟩ := jr_val (sb := sb) hW hrf (by rw [hk]; exact h12) (by rw [hk]; exact hj) (by rw [hk]; exact hf) hv
    refine kk ?_
    split at h1
    · exact h1 _ _ _ _ _ _ _ _ (jRel_pv hr1 (v0 (Or.inl ‹_›)))
    · exact h1 _ _ _ _ _ _ _ _ (jRel_pv hr1 (v1 ‹_›))
    · exact h1 _ _ _ _ _ _ _ _ (jRel_pv hr1 (v0 (Or.inr ‹_›)))
    · split at h1
      · exact h1 _ _ _ _ _ _ _ _ (jRel_pv hr1 (v3 ‹_› (Or.inl (hc.2.2.2.2.2.2.2.2.2.2.1 ‹_›))))
      · split at h1
        · exact h1.2 _ _ _ _ _ _ _ _ (jRel_pv hr1 (v3 ‹_› (Or.inr h1.1)))
        · exact h1.elim
    · split at h1
      · exact h1 _ _ _ _ _ _ _ _ (jRel_pv hr1 (v4 ‹_› (Or.inl (hc.2.2.2.2.2.2.2.2.2.2.1 ‹_›))))
      · split at h1
        · exact h1.2 _ _ _ _ _ _ _ _ (jRel_pv hr1 (v4 ‹_› (Or.inr h1.1)))
        · exact h1.elim
    · split at h1
      · exact h1 _ _ _ _ _ _ _ _ (jRel_pv hr1 (v5 ‹_› (hc.2.2.2.2.2.2.2.2.2.2.1 ‹_›)))
      · exact h1.elim
    · exact h1.elim
  · rw [if_neg hci] at h1
    exact h1.elim
theorem jr_arraylength (hc : jCx p R s mi args meth c A H0 Ts z fu sb g) (hd : decode (jBy z) pc = .ok (.arraylength, 1)) (h : jStp z C (jP p l e R s mi args below meth c Qf D A H0 z fu sb g n0 ws0) Q pc 1 ls m (jEff z .arraylength 1 pc ls st m)) : jP p l e R s mi args below meth c Qf D A H0 z fu sb g n0 ws0 pc ls st m := by
  obtain ⟨t, n, a, r, rfl, h1⟩ := jY1_inv h
  intro H locs cells slots ws tys lsR stR hr
  obtain ⟨q, rR, rfl, hv, hr1⟩ := jRel_r hr
  have hW := hr1.1.2.2.2.2
  have hK := hr1.1.2.2.1
  have hP := hr1.1.1
  rcases hv with ⟨h4, hk, hn, q', e1, hrf⟩ | ⟨h4, b, L, hs, hn, ha, e1⟩
  · cases e1
    obtain ⟨l1, l2, l3⟩ := jRf_lt hW hrf
    have hb := jKd_ok l2
    rw [l3, hn] at hb
    have fin : ∀ (x : Int32), x = Int32.ofNat n.toNat → n = x.toInt := by
      intro x hx
      subst hx
      have : (nI n.toNat).toInt = (n.toNat : Int) := nI_toInt (by omega)
      rw [show Int32.ofNat n.toNat = nI n.toNat from rfl, this]
      omega
    have h4' : t = 0 ∨ t = 1 ∨ t = 2 ∨ t = 3 := by omega
    rcases h4' with rfl | rfl | rfl | rfl
    · obtain ⟨cA, f, t0, k1, k2, k3⟩ := jWd_int hW hrf hk
      rw [hn] at k1
      exact va_alen hc.1 hc.2.1 hK hP a.toNat t0 (ty := .int) k1 k2 rfl hd (h1 _ _ _ _ _ _ _ _ (jRel_pi hr1 (fin _ rfl)))
    · obtain ⟨cA, f, t0, k1, k2, k3⟩ := jWd_lng hW hrf hk
      rw [hn] at k1
      exact va_alen hc.1 hc.2.1 hK hP a.toNat t0 (ty := .long) k1 k2 rfl hd (h1 _ _ _ _ _ _ _ _ (jRel_pi hr1 (fin _ rfl)))
    · obtain ⟨cA, f, t0, k1, k2, k3⟩ := jWd_ref hW hrf (Or.inl hk)
      rw [hn] at k1
      exact va_alen hc.1 hc.2.1 hK hP a.toNat t0 k1 k2 rfl hd (h1 _ _ _ _ _ _ _ _ (jRel_pi hr1 (fin _ rfl)))
    · obtain ⟨cA, f, t0, k1, k2, k3⟩ := jWd_ref hW hrf (Or.inr hk)
      rw [hn] at k1
      exact va_alen hc.1 hc.2.1 hK hP a.toNat t0 k1 k2 rfl hd (h1 _ _ _ _ _ _ _ _ (jRel_pi hr1 (fin _ rfl)))
  · cases e1
    obtain ⟨hL, xs, hX, hbl, hbA, hxs⟩ := hc.2.2.2.2.2.2.2.2.2.2.2.2 q L hs
    refine va_slen hc.1 hc.2.1 hX hbl hbA hr1.1.2.2.2.1 hd (h1 _ _ _ _ _ _ _ _ (jRel_pi hr1 ?_))
    rw [hn]
    exact (nI_toInt hL).symm
theorem jr_iaload (hc : jCx p R s mi args meth c A H0 Ts z fu sb g) (hd : decode (jBy z) pc = .ok (.iaload, 1)) (h : jStp z C (jP p l e R s mi args below meth c Qf D A H0 z fu sb g n0 ws0) Q pc 1 ls m (jEff z .iaload 1 pc ls st m)) : jP p l e R s mi args below meth c Qf D A H0 z fu sb g n0 ws0 pc ls st m := by
  obtain ⟨i, r, rfl, h1⟩ := jI1_inv h
  obtain ⟨t, n, a, r, rfl, h2⟩ := jY1_inv h1
  obtain ⟨ht, h3⟩ := jIf_inv h2
  intro H locs cells slots ws tys lsR stR hr
  obtain ⟨x, rR, rfl, rfl, hr0⟩ := jRel_i hr
  obtain ⟨q, rR, rfl, hv, hr1⟩ := jRel_r hr0
  have hW := hr1.1.2.2.2.2
  have hi := jn_in h3.1
  have hcl := jn_cl h3.1.1
  obtain ⟨hb0, hb1⟩ := h3.1
  rcases hv with ⟨h4, hk, hn, q', e1, hrf⟩ | ⟨h4, b, L, hs, hn, ha, e1⟩
  · cases e1
    have ht : t = 0 := by omega
    subst ht
    obtain ⟨cA, f, t0, k1, k2, k3⟩ := jWd_int hW hrf hk
    rw [hn] at k1 k3
    refine va_iald hc.1 hc.2.1 hr1.1.2.2.1 hr1.1.1 a.toNat t0 k1 k2 hi hd ?_
    have k4 := k3 x.toNatClampNeg (by omega)
    rw [hcl] at k4
    exact h3.2 _ _ _ _ _ _ _ _ (jRel_pi hr1 k4)
  · cases e1
    subst ha
    obtain ⟨hL, xs, hX, hbl, hbA, hxs⟩ := hc.2.2.2.2.2.2.2.2.2.2.2.2 q L hs
    have hi2 : vp_in x L := by
      have := hi
      rw [hn] at this
      simpa using this
    refine va_sld hc.1 hc.2.1 hX hbl hbA hr1.1.2.2.2.1 hi2 hd ?_
    have k4 := hxs x.toNatClampNeg (by omega)
    rw [hcl] at k4
    exact h3.2 _ _ _ _ _ _ _ _ (jRel_pi hr1 (by rw [hr1.2.2.2.1]; exact k4))
theorem jr_laload (hc : jCx p R s mi args meth c A H0 Ts z fu sb g) (hd : decode (jBy z) pc = .ok (.laload, 1)) (h : jStp z C (jP p l e R s mi args below meth c Qf D A H0 z fu sb g n0 ws0) Q pc 1 ls m (jEff z .laload 1 pc ls st m)) : jP p l e R s mi args below meth c Qf D A H0 z fu sb g n0 ws0 pc ls st m := by
  obtain ⟨i, r, rfl, h1⟩ := jI1_inv h
  obtain ⟨t, n, a, r, rfl, h2⟩ := jY1_inv h1
  obtain ⟨ht, h3⟩ := jIf_inv h2
  intro H locs cells slots ws tys lsR stR hr
  obtain ⟨x, rR, rfl, rfl, hr0⟩ := jRel_i hr
  obtain ⟨q, rR, rfl, hv, hr1⟩ := jRel_r hr0
  have hW := hr1.1.2.2.2.2
  have hi := jn_in h3.1
  have hcl := jn_cl h3.1.1
  obtain ⟨hb0, hb1⟩ := h3.1
  rcases hv with ⟨h4, hk, hn, q', e1, hrf⟩ | ⟨h4, -⟩
  · cases e1
    subst ht
    obtain ⟨cA, f, t0, k1, k2, k3⟩ := jWd_lng hW hrf hk
    rw [hn] at k1 k3
    refine va_lald hc.1 hc.2.1 hr1.1.2.2.1 hr1.1.1 a.toNat t0 k1 k2 hi hd ?_
    have k4 := k3 x.toNatClampNeg (by omega)
    rw [hcl] at k4
    exact h3.2 _ _ _ _ _ _ _ _ (jRel_pl hr1 k4)
  · omega
theorem jr_aaload (hc : jCx p R s mi args meth c A H0 Ts z fu sb g) (hd : decode (jBy z) pc = .ok (.aaload, 1)) (h : jStp z C (jP p l e R s mi args below meth c Qf D A H0 z fu sb g n0 ws0) Q pc 1 ls m (jEff z .aaload 1 pc ls st m)) : jP p l e R s mi args below meth c Qf D A H0 z fu sb g n0 ws0 pc ls st m := by
  obtain ⟨i, r, rfl, h1⟩ := jI1_inv h
  obtain ⟨t, n, a, r, rfl, h2⟩ := jY1_inv h1
  obtain ⟨ht, h3⟩ := jIf_inv h2
  intro H locs cells slots ws tys lsR stR hr
  obtain ⟨x, rR, rfl, rfl, hr0⟩ := jRel_i hr
  obtain ⟨q, rR, rfl, hv, hr1⟩ := jRel_r hr0
  have hW := hr1.1.2.2.2.2
  have hi := jn_in h3.1
  have hcl := jn_cl h3.1.1
  obtain ⟨hb0, hb1⟩ := h3.1
  rcases hv with ⟨h4, hk, hn, q', e1, hrf⟩ | ⟨h4, -⟩
  · cases e1
    obtain ⟨cA, f, t0, k1, k2, k3⟩ := jWd_ref hW hrf (by omega)
    rw [hn] at k1 k3
    refine va_aldq hc.1 hc.2.1 hr1.1.2.2.1 hr1.1.1 a.toNat t0 k1 k2 hi hd ?_
    have k4 := k3 x.toNatClampNeg (by omega)
    rw [hcl] at k4
    rcases k4 with ⟨k4, -⟩ | ⟨k4, u, k5, k6⟩
    · rw [hc.2.2.2.2.2.2.2.2.2.2.1 ht.1] at k4
      cases k4
    · rw [k5]
      exact h3.2 _ _ _ _ _ _ _ _ (jRel_pv hr1 ⟨by omega, u, rfl, k6⟩)
  · omega
/-- the world behind a store -/
theorem jRel_set (h : jRel R s D A H0 z fu sb g n0 ws0 H locs cells slots ws tys lsR stR ls st m) {k a : Nat} {e0 e1 : va_E} {H1 : Heap} {locs1 : List Loc} {m' : jM} (hk : ws[k]? = some (a, e0)) (hP : va_P D jVc (ws.set k (a, e1)) H1) (hD : va_D A (ws.set k (a, e1))) (hS : va_S A H0 H1 locs1) (hW : jWd fu (ws.set k (a, e1)) tys m') (h2 : ∀ j, m' (-2) j = m (-2) j) (h3 : m' (-2) (-7) = m (-2) (-7)) :
    jRel R s D A H0 z fu sb g n0 ws0 H1 locs1 cells slots (ws.set k (a, e1)) tys lsR stR ls st m' := by
  obtain ⟨⟨g1, g2, g3, g4, g5⟩, g6, g7, g8, g9, g10⟩ := h
  have hx := jEx_set hk e1
  refine ⟨⟨hP, hD, g3, hS, hW⟩, jLr_ex hx g6, jSr_ex hx g7, fun j => (h2 j).trans (g8 j), ?_, jEx_tr g10 hx⟩
  unfold jBd at g9 ⊢
  rw [List.length_set, h3]
  exact g9
theorem jr_iastore (hc : jCx p R s mi args meth c A H0 Ts z fu sb g) (hd : decode (jBy z) pc = .ok (.iastore, 1)) (h : jStp z C (jP p l e R s mi args below meth c Qf D A H0 z fu sb g n0 ws0) Q pc 1 ls m (jEff z .iastore 1 pc ls st m)) : jP p l e R s mi args below meth c Qf D A H0 z fu sb g n0 ws0 pc ls st m := by
  obtain ⟨v, r, rfl, h0⟩ := jI1_inv h
  obtain ⟨i, r, rfl, h1⟩ := jI1_inv h0
  obtain ⟨t, n, a, r, rfl, h2⟩ := jY1_inv h1
  obtain ⟨ht, h3⟩ := jIf_inv h2
  subst ht
  intro H locs cells slots ws tys lsR stR hr
  obtain ⟨y, rR, rfl, rfl, hr00⟩ := jRel_i hr
  obtain ⟨x, rR, rfl, rfl, hr0⟩ := jRel_i hr00
  obtain ⟨q, rR, rfl, hv, hr1⟩ := jRel_r hr0
  have hW := hr1.1.2.2.2.2
  have hi := jn_in h3.1
  have hcl := jn_cl h3.1.1
  obtain ⟨hb0, hb1⟩ := h3.1
  rcases hv with ⟨h4, hk, hn, q', e1, hrf⟩ | ⟨h4, -⟩
  · cases e1
    obtain ⟨cA, f, t0, k1, k2, k3⟩ := jWd_int hW hrf hk
    obtain ⟨l1, l2, l3⟩ := jRf_lt hW hrf
    refine va_iast hc.1 hc.2.1 hr1.1.2.2.1 hr1.1.1 hr1.1.2.1 hr1.1.2.2.2.1 a.toNat t0 k1 k2 (by rw [hn]; exact hi) hd (fun H1 locs1 hP hD hS => ?_)
    have hw := jWd_iast (i := x.toNatClampNeg) hW k1 (by rw [l3]; exact hk) k2 (by rw [l3]) (by rw [l3]; exact k3) y
    rw [l3, hcl] at hw
    exact h3.2 _ _ _ _ _ _ _ _ (jRel_set hr1 k1 hP hD hS hw (fun j => jUp_ne (by omega)) (jUp_ne (by omega)))
  · omega
theorem jr_lastore (hc : jCx p R s mi args meth c A H0 Ts z fu sb g) (hd : decode (jBy z) pc = .ok (.lastore, 1)) (h : jStp z C (jP p l e R s mi args below meth c Qf D A H0 z fu sb g n0 ws0) Q pc 1 ls m (jEff z .lastore 1 pc ls st m)) : jP p l e R s mi args below meth c Qf D A H0 z fu sb g n0 ws0 pc ls st m := by
  obtain ⟨v, r, rfl, h0⟩ := jL1_inv h
  obtain ⟨i, r, rfl, h1⟩ := jI1_inv h0
  obtain ⟨t, n, a, r, rfl, h2⟩ := jY1_inv h1
  obtain ⟨ht, h3⟩ := jIf_inv h2
  subst ht
  intro H locs cells slots ws tys lsR stR hr
  obtain ⟨y, rR, rfl, rfl, hr00⟩ := jRel_l hr
  obtain ⟨x, rR, rfl, rfl, hr0⟩ := jRel_i hr00
  obtain ⟨q, rR, rfl, hv, hr1⟩ := jRel_r hr0
  have hW := hr1.1.2.2.2.2
  have hi := jn_in h3.1
  have hcl := jn_cl h3.1.1
  obtain ⟨hb0, hb1⟩ := h3.1
  rcases hv with ⟨h4, hk, hn, q', e1, hrf⟩ | ⟨h4, -⟩
  · cases e1
    obtain ⟨cA, f, t0, k1, k2, k3⟩ := jWd_lng hW hrf hk
    obtain ⟨l1, l2, l3⟩ := jRf_lt hW hrf
    refine va_last hc.1 hc.2.1 hr1.1.2.2.1 hr1.1.1 hr1.1.2.1 hr1.1.2.2.2.1 a.toNat t0 k1 k2 (by rw [hn]; exact hi) hd (fun H1 locs1 hP hD hS => ?_)
    have hw := jWd_last (i := x.toNatClampNeg) hW k1 (by rw [l3]; exact hk) k2 (by rw [l3]) (by rw [l3]; exact k3) y
    rw [l3, hcl] at hw
    exact h3.2 _ _ _ _ _ _ _ _ (jRel_set hr1 k1 hP hD hS hw (fun j => jUp_ne (by omega)) (jUp_ne (by omega)))
  · omega
theorem jr_aastore (hc : jCx p R s mi args meth c A H0 Ts z fu sb g) (hd : decode (jBy z) pc = .ok (.aastore, 1)) (h : jStp z C (jP p l e R s mi args below meth c Qf D A H0 z fu sb g n0 ws0) Q pc 1 ls m (jEff z .aastore 1 pc ls st m)) : jP p l e R s mi args below meth c Qf D A H0 z fu sb g n0 ws0 pc ls st m := by
  obtain ⟨ci, b, r, rfl, h0⟩ := jO1_inv h
  obtain ⟨i, r, rfl, h1⟩ := jI1_inv h0
  obtain ⟨t, n, a, r, rfl, h2⟩ := jY1_inv h1
  obtain ⟨ht, h3⟩ := jIf_inv h2
  intro H locs cells slots ws tys lsR stR hr
  obtain ⟨qb, rR, rfl, ⟨hkb, qb', eb, hrb⟩, hr00⟩ := jRel_r hr
  cases eb
  obtain ⟨x, rR, rfl, rfl, hr0⟩ := jRel_i hr00
  obtain ⟨q, rR, rfl, hv, hr1⟩ := jRel_r hr0
  have hW := hr1.1.2.2.2.2
  have hi := jn_in h3.1
  have hcl := jn_cl h3.1.1
  obtain ⟨hb0, hb1⟩ := h3.1
  rcases hv with ⟨h4, hk, hn, q', e1, hrf⟩ | ⟨h4, -⟩
  · cases e1
    obtain ⟨cA, f, t0, k1, k2, k3⟩ := jWd_ref hW hrf (by omega)
    obtain ⟨l1, l2, l3⟩ := jRf_lt hW hrf
    have hcc : ci = jKd a - 16 := by omega
    have h12 : ci < 12 := by omega
    obtain ⟨vs, o1, o2, o3⟩ := jWd_obj hW hrb (by rw [hkb]; exact h12)
    rw [hkb] at o1
    refine va_astq (r := (jRn ci, jTc ci, jNf ci)) hc.1 hc.2.1 hr1.1.2.2.1 hr1.1.1 hr1.1.2.1 hr1.1.2.2.2.1 a.toNat t0 b.toNat ci k1 (by rw [hcc]; exact k2) o1 (jVc_at h12) (by rw [hn]; exact hi) hd (fun H1 locs1 hP hD hS => ?_)
    have hw := jWd_aast (i := x.toNatClampNeg) (b := b) (q := qb) hW k1 (by rw [l3]; omega) (by rw [l3]; exact k2) (by rw [l3]) (by rw [l3]; exact k3) (by rw [l3]; omega) hrb
    rw [l3, hcl] at hw
    exact h3.2 _ _ _ _ _ _ _ _ (jRel_set hr1 k1 hP hD hS hw (fun j => jUp_ne (by omega)) (jUp_ne (by omega)))
  · omega
end ROWS
