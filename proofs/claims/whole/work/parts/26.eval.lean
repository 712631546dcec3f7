/-! what a rule's text is worth: G r f k: of rule r, f = 0 parts, 1 root, 2 op, 3 num, 4 left, 5 right, 6 then, 7 else, 8 place of part k -/
abbrev vR : Type := Int × Int × Int × Int × Int × Int
def vOk (v : Int) : vR := (v, 0, 0, 0, 0, 0)
def vFl (how place r : Int) : vR := (0, how, place, 1, r, -1)
def vNm (r : Int) (x : vR) : vR := if x.2.1 = 0 then x else (x.1, x.2.1, x.2.2.1, x.2.2.2.1 + 1, x.2.2.2.2.1, if x.2.2.2.1 = 1 then r else x.2.2.2.2.2)
def vLm (v place r : Int) : vR := if -1000000000 ≤ v ∧ v ≤ 1000000000 then vOk v else vFl 2 place r
def fdv (x y : Int) : Int := if lXor x y < 0 then (if w64 (lDiv x y * y) = x then lDiv x y else w64 (lDiv x y - 1)) else lDiv x y
def fmd (x y : Int) : Int := if lXor x y < 0 then (if lRem x y = 0 then lRem x y else w64 (lRem x y + y)) else lRem x y
/-- two values joined: the op's number is the reference's -/
def vJn (op a b place r : Int) : vR :=
  if op = 3 then vLm (a + b) place r else if op = 4 then vLm (a - b) place r else if op = 5 then vLm (a * b) place r else if op = 8 then vOk (min a b) else if op = 9 then vOk (max a b)
  else if b = 0 then vFl 1 place r else if op = 10 then vOk (fdv a b) else vOk (fmd a b)
def ev (G : Int → Int → Int → Int) (t : Int → Int) (j c : Int) : Nat → Int → Int → vR
  | 0, _, _ => vOk 0
  | n + 1, r, k =>
    if G r 2 k = 0 then vOk (G r 3 k)
    else if G r 2 k = 1 then vOk (if G r 3 k < 3 then t (3 * j + G r 3 k) else t (3 * (8 + c) + G r 3 k - 3))
    else if G r 2 k = 2 then vNm r (if G (G r 3 k) 0 0 = 0 then vOk 0 else ev G t j c n (G r 3 k) (G (G r 3 k) 1 0))
    else if (ev G t j c n r (G r 4 k)).2.1 ≠ 0 then ev G t j c n r (G r 4 k)
    else if G r 2 k = 6 then vOk (-(ev G t j c n r (G r 4 k)).1)
    else if G r 2 k = 7 then vOk (if (ev G t j c n r (G r 4 k)).1 < 0 then -(ev G t j c n r (G r 4 k)).1 else (ev G t j c n r (G r 4 k)).1)
    else if (ev G t j c n r (G r 5 k)).2.1 ≠ 0 then ev G t j c n r (G r 5 k)
    else if G r 2 k = 12 then (if (ev G t j c n r (G r 4 k)).1 < (ev G t j c n r (G r 5 k)).1 then ev G t j c n r (G r 6 k) else ev G t j c n r (G r 7 k))
    else vJn (G r 2 k) (ev G t j c n r (G r 4 k)).1 (ev G t j c n r (G r 5 k)).1 (G r 8 k) r
def wf (G : Int → Int → Int → Int) : Nat → Int → Int → Prop
  | 0, _, _ => False
  | n + 1, r, k => (0 ≤ k ∧ k < 24 ∧ k < G r 0 0) ∧ ((G r 2 k = 0 ∧ 0 ≤ G r 3 k ∧ G r 3 k ≤ 9999) ∨ (G r 2 k = 1 ∧ 0 ≤ G r 3 k ∧ G r 3 k < 6) ∨ (G r 2 k = 2 ∧ (0 ≤ G r 3 k ∧ G r 3 k < 4) ∧ (G (G r 3 k) 0 0 = 0 ∨ wf G n (G r 3 k) (G (G r 3 k) 1 0))) ∨
      ((G r 2 k = 6 ∨ G r 2 k = 7) ∧ wf G n r (G r 4 k)) ∨ (((3 ≤ G r 2 k ∧ G r 2 k ≤ 5) ∨ (8 ≤ G r 2 k ∧ G r 2 k ≤ 11)) ∧ wf G n r (G r 4 k) ∧ wf G n r (G r 5 k)) ∨
      (G r 2 k = 12 ∧ wf G n r (G r 4 k) ∧ wf G n r (G r 5 k) ∧ wf G n r (G r 6 k) ∧ wf G n r (G r 7 k)))
theorem wf_mono {G : Int → Int → Int → Int} (n : Nat) : ∀ {r k : Int}, wf G n r k → wf G (n + 1) r k := by
  induction n with
  | zero => intro r k h; exact h.elim
  | succ n ih =>
    intro r k h
    obtain ⟨h0, h1⟩ := h
    refine ⟨h0, ?_⟩
    rcases h1 with h | h | ⟨h, h2, h3⟩ | ⟨h, h2⟩ | ⟨h, h2, h3⟩ | ⟨h, h2, h3, h4, h5⟩
    · exact Or.inl h
    · exact Or.inr (Or.inl h)
    · exact Or.inr (Or.inr (Or.inl ⟨h, h2, h3.imp id ih⟩))
    · exact Or.inr (Or.inr (Or.inr (Or.inl ⟨h, ih h2⟩)))
    · exact Or.inr (Or.inr (Or.inr (Or.inr (Or.inl ⟨h, ih h2, ih h3⟩))))
    · exact Or.inr (Or.inr (Or.inr (Or.inr (Or.inr ⟨h, ih h2, ih h3, ih h4, ih h5⟩))))
theorem wf_le {G : Int → Int → Int → Int} {n n' : Nat} (h : n ≤ n') {r k : Int} (hw : wf G n r k) : wf G n' r k := by
  induction h with
  | refl => exact hw
  | step _ ih => exact wf_mono _ ih
def bnd (v : Int) : Prop := -1000000000 ≤ v ∧ v ≤ 1000000000
theorem lXor_neg {x y : Int} (hx : in64 x) (hy : in64 y) : lXor x y < 0 ↔ ((x < 0 ∧ 0 ≤ y) ∨ (0 ≤ x ∧ y < 0)) := by
  unfold in64 at hx hy
  have ex : (Int64.ofInt x).toInt = x := by
    rw [Int64.toInt_ofInt_of_le] <;> omega
  have ey : (Int64.ofInt y).toInt = y := by
    rw [Int64.toInt_ofInt_of_le] <;> omega
  have key : ∀ a b : Int64, (a ^^^ b).toInt < 0 ↔ ((a.toInt < 0 ∧ 0 ≤ b.toInt) ∨ (0 ≤ a.toInt ∧ b.toInt < 0)) := by
    intro a b
    rw [← Int64.toInt_toBitVec, ← Int64.toInt_toBitVec, ← Int64.toInt_toBitVec, Int64.toBitVec_xor]
    have h1 : ∀ z : BitVec 64, z.toInt < 0 ↔ z.msb = true := by
      intro z
      rw [BitVec.msb_eq_toInt]; simp
    have h2 : ∀ z : BitVec 64, 0 ≤ z.toInt ↔ z.msb = false := by
      intro z
      have := h1 z
      cases hz : z.msb with
      | true => rw [hz] at this; simp at this; simp; omega
      | false => rw [hz] at this; simp at this; simp; omega
    rw [h1, h1, h1, h2, h2, BitVec.msb_xor]
    cases a.toBitVec.msb <;> cases b.toBitVec.msb <;> simp
  have := key (Int64.ofInt x) (Int64.ofInt y)
  rw [ex, ey] at this
  exact this
theorem tdiv_b {x y : Int} (hx : bnd x) (hy : y ≠ 0) : bnd (x.tdiv y) := by
  have := Int.natAbs_tdiv_le_natAbs x y
  unfold bnd at *
  omega
theorem fdv_b {x y : Int} (hx : bnd x) (hb : bnd y) (hy : y ≠ 0) : bnd (fdv x y) := by
  have h1 := tdiv_b hx hy
  have e1 : lDiv x y = x.tdiv y := by unfold lDiv; unfold bnd at h1; exact w64_id (by omega) (by omega)
  unfold fdv
  rw [e1]
  split
  · split
    · exact h1
    · rename_i g
      -- not exact: y isn't 1 or -1
      have h2 := Int.mul_tdiv_add_tmod x y
      have hm : (x.tdiv y).natAbs * y.natAbs ≤ x.natAbs := by
        rw [Int.natAbs_tdiv]
        exact Nat.div_mul_le_self _ _
      have hx2 : x.natAbs ≤ 1000000000 := by unfold bnd at hx; omega
      by_cases hy1 : y.natAbs = 1
      · exfalso
        apply g
        have : y = 1 ∨ y = -1 := by omega
        rcases this with rfl | rfl
        · rw [Int.tdiv_one, Int.mul_one]; unfold bnd at hx; exact w64_id (by omega) (by omega)
        · rw [Int.tdiv_neg, Int.tdiv_one]
          unfold bnd at hx
          rw [show -x * -1 = x by omega]; exact w64_id (by omega) (by omega)
      · have hy2 : 2 ≤ y.natAbs := by omega
        have hm2 : (x.tdiv y).natAbs * 2 ≤ 1000000000 := Nat.le_trans (Nat.mul_le_mul_left _ hy2) (Nat.le_trans hm hx2)
        unfold bnd at h1 ⊢
        rw [w64_id (by omega) (by omega)]
        omega
  · exact h1
theorem fmd_b {x y : Int} (hx : bnd x) (hb : bnd y) (hy : y ≠ 0) : bnd (fmd x y) := by
  have e1 : lRem x y = x.tmod y := rfl
  have hx' := hx
  have hb' := hb
  unfold bnd at hx hb
  have hlt : (x.tmod y).natAbs < y.natAbs := by
    rw [Int.natAbs_tmod]
    exact Nat.mod_lt _ (by omega)
  have hs : (0 ≤ x → 0 ≤ x.tmod y) ∧ (x < 0 → x.tmod y ≤ 0) := by
    refine ⟨fun h => Int.tmod_nonneg y h, fun h => ?_⟩
    have := Int.tmod_nonneg (a := -x) y (by omega)
    rw [Int.neg_tmod] at this
    omega
  unfold fmd
  rw [e1]
  split
  · rename_i g
    rw [lXor_neg (by unfold in64; omega) (by unfold in64; omega)] at g
    split
    · unfold bnd; omega
    · unfold bnd
      rw [w64_id (by omega) (by omega)]
      omega
  · unfold bnd; omega
theorem vJn_b {op a b place r : Int} (ha : bnd a) (hb : bnd b) : bnd (vJn op a b place r).1 := by
  have h0 : bnd 0 := by unfold bnd; omega
  have hl : ∀ v, bnd (vLm v place r).1 := by
    intro v
    unfold vLm
    split
    · assumption
    · exact h0
  unfold vJn
  split
  · exact hl _
  split
  · exact hl _
  split
  · exact hl _
  split
  · show bnd (min a b); unfold bnd at *; omega
  split
  · show bnd (max a b); unfold bnd at *; omega
  split
  · exact h0
  · rename_i hb0
    split
    · exact fdv_b ha hb hb0
    · exact fmd_b ha hb hb0
/-- traits within bounds -/
def tbd (t : Int → Int) : Prop := ∀ x : Int, 0 ≤ x → x < 48 → -999 ≤ t x ∧ t x ≤ 999
theorem vNm_b {r : Int} {x : vR} (h : bnd x.1) : bnd (vNm r x).1 := by
  unfold vNm
  split <;> exact h
theorem ev_b {G : Int → Int → Int → Int} {t : Int → Int} {j c : Int} (ht : tbd t) (hj : 0 ≤ j ∧ j < 8) (hc : 0 ≤ c ∧ c < 8) (n : Nat) : ∀ {r k : Int}, wf G n r k → bnd (ev G t j c n r k).1 := by
  induction n with
  | zero => intro r k h; exact h.elim
  | succ n ih =>
    intro r k h
    have h0 : bnd 0 := by unfold bnd; omega
    obtain ⟨_, h1⟩ := h
    unfold ev
    rcases h1 with ⟨h, h2, h3⟩ | ⟨h, h2, h3⟩ | ⟨h, h2, h3⟩ | ⟨h, h2⟩ | ⟨h, h2, h3⟩ | ⟨h, h2, h3, h4, h5⟩
    · rw [if_pos h]
      show bnd (G r 3 k)
      unfold bnd; omega
    · rw [if_neg (by omega), if_pos h]
      show bnd (if G r 3 k < 3 then _ else _)
      split
      · have := ht (3 * j + G r 3 k) (by omega) (by omega); unfold bnd; omega
      · have := ht (3 * (8 + c) + G r 3 k - 3) (by omega) (by omega); unfold bnd; omega
    · rw [if_neg (by omega), if_neg (by omega), if_pos h]
      refine vNm_b ?_
      rcases h3 with h3 | h3
      · rw [if_pos h3]; exact h0
      · split
        · exact h0
        · exact ih h3
    · rw [if_neg (by omega), if_neg (by omega), if_neg (by omega)]
      have a := ih h2
      split
      · exact a
      · rcases h with h | h
        · rw [if_pos h]
          show bnd (-(ev G t j c n r (G r 4 k)).1)
          unfold bnd at a ⊢; omega
        · rw [if_neg (by omega), if_pos h]
          show bnd (if (ev G t j c n r (G r 4 k)).1 < 0 then -(ev G t j c n r (G r 4 k)).1 else (ev G t j c n r (G r 4 k)).1)
          split
          · unfold bnd at a ⊢; omega
          · exact a
    · rw [if_neg (by omega), if_neg (by omega), if_neg (by omega)]
      have a := ih h2
      have b := ih h3
      split
      · exact a
      · rw [if_neg (by omega), if_neg (by omega)]
        split
        · exact b
        · rw [if_neg (by omega)]
          exact vJn_b a b
    · rw [if_neg (by omega), if_neg (by omega), if_neg (by omega)]
      have a := ih h2
      have b := ih h3
      split
      · exact a
      · rw [if_neg (by omega), if_neg (by omega)]
        split
        · exact b
        · split
          · exact ih h4
          · exact ih h5
theorem ev_s (G : Int → Int → Int → Int) (t : Int → Int) (j c : Int) (n : Nat) (r k : Int) : ev G t j c (n + 1) r k = if G r 2 k = 0 then vOk (G r 3 k)
    else if G r 2 k = 1 then vOk (if G r 3 k < 3 then t (3 * j + G r 3 k) else t (3 * (8 + c) + G r 3 k - 3))
    else if G r 2 k = 2 then vNm r (if G (G r 3 k) 0 0 = 0 then vOk 0 else ev G t j c n (G r 3 k) (G (G r 3 k) 1 0))
    else if (ev G t j c n r (G r 4 k)).2.1 ≠ 0 then ev G t j c n r (G r 4 k)
    else if G r 2 k = 6 then vOk (-(ev G t j c n r (G r 4 k)).1)
    else if G r 2 k = 7 then vOk (if (ev G t j c n r (G r 4 k)).1 < 0 then -(ev G t j c n r (G r 4 k)).1 else (ev G t j c n r (G r 4 k)).1)
    else if (ev G t j c n r (G r 5 k)).2.1 ≠ 0 then ev G t j c n r (G r 5 k)
    else if G r 2 k = 12 then (if (ev G t j c n r (G r 4 k)).1 < (ev G t j c n r (G r 5 k)).1 then ev G t j c n r (G r 6 k) else ev G t j c n r (G r 7 k))
    else vJn (G r 2 k) (ev G t j c n r (G r 4 k)).1 (ev G t j c n r (G r 5 k)).1 (G r 8 k) r := rfl
theorem s_fdv {d : Nat} {a b : Int} {m : jM} {Q : Int → jM → Prop} (hb : b ≠ 0) (h : Q (fdv a b) m) : jK (d + 1) zJ9_floorDiv_f86c9 [jL a, jL b] m Q := by
  unfold fdv at h
  refine gJ9_floorDiv_f86c9 d a b m Q ⟨hb, fun q => ⟨fun q2 => ?_, fun q2 => ?_⟩, fun q => ?_⟩
  · rw [if_pos q, if_pos q2] at h; exact h
  · rw [if_pos q, if_neg q2] at h; exact h
  · rw [if_neg q] at h; exact h
theorem s_fmd {d : Nat} {a b : Int} {m : jM} {Q : Int → jM → Prop} (hb : b ≠ 0) (h : Q (fmd a b) m) : jK (d + 1) zJ9_floorMod_f86c9 [jL a, jL b] m Q := by
  unfold fmd at h
  refine gJ9_floorMod_f86c9 d a b m Q ⟨hb, fun q => ⟨fun q2 => ?_, fun q2 => ?_⟩, fun q => ?_⟩
  · rw [if_pos q, if_pos q2] at h; exact h
  · rw [if_pos q, if_neg q2] at h; exact h
  · rw [if_neg q] at h; exact h
