/-! with and without a pair -/
def oW (o : Int → Int → Bool) (j c : Int) : Int → Int → Bool := fun j' c' => o j' c' && (decide (c' ≠ c) || decide (j' = j))
def oL (o : Int → Int → Bool) (j c : Int) : Int → Int → Bool := fun j' c' => o j' c' && !(decide (c' = c) && decide (j' = j))
theorem dpB_w {o o' : Int → Int → Bool} {b : Int → Int → Int} (hB : dpB o b) (h : ∀ j c : Int, o' j c = true → o j c = true) : dpB o' b := fun j c h1 h2 h3 h4 h5 => hB j c h1 h2 h3 h4 (h j c h5)
theorem oW_o {o : Int → Int → Bool} {j c j' c' : Int} (h : oW o j c j' c' = true) : o j' c' = true := by
  unfold oW at h; rw [Bool.and_eq_true] at h; exact h.1
theorem oL_o {o : Int → Int → Bool} {j c j' c' : Int} (h : oL o j c j' c' = true) : o j' c' = true := by
  unfold oL at h; rw [Bool.and_eq_true] at h; exact h.1
/-- matchings by restricted pairs are those that keep to them; R: what a case's judge must be like -/
theorem mts_flt {o o' : Int → Int → Bool} {C : Int → Bool} {c : Int} {R : Int → Bool} (ho : ∀ j' c' : Int, c' ≠ c → o' j' c' = o j' c') (hc : ∀ j' : Int, o' j' c = (o j' c && R j')) (hR : C c = true) (k : Nat) (hk : k ≤ 8) : ∀ s, mts o' C k s = if 8 - (k : Int) ≤ c ∧ c < 8 then (mts o C k s).filter (fun l => R (l.getD (c - (8 - k)).toNat (-1))) else mts o C k s := by
  induction k with
  | zero =>
    intro s
    rw [if_neg (by omega)]
    rfl
  | succ k ih =>
    intro s
    have ih := ih (by omega)
    rw [mts_s, mts_s]
    by_cases h : 8 - ((k + 1 : Nat) : Int) ≤ c ∧ c < 8
    · rw [if_pos h]
      by_cases hc7 : c = 7 - (k : Int)
      · have e : (c - (8 - ((k + 1 : Nat) : Int))).toNat = 0 := by omega
        have hC : C (7 - (k : Int)) = true := by rw [← hc7]; exact hR
        rw [if_pos hC, if_pos hC, fm_filter]
        apply fm_congr
        intro j hj
        have hi := fun s => (ih s).trans (if_neg (show ¬ (8 - (k : Int) ≤ c ∧ c < 8) by omega))
        rw [← hc7, hc, hi]
        by_cases hg : bt s j = false ∧ o j c = true
        · rw [if_pos hg]
          by_cases hr : R j = true
          · rw [if_pos ⟨hg.1, by rw [hg.2, hr]; rfl⟩, List.filter_eq_self.mpr]
            intro l hl
            obtain ⟨l', _, rfl⟩ := List.mem_map.mp hl
            rw [e]
            simpa using hr
          · rw [if_neg (by rintro ⟨_, g⟩; rw [Bool.and_eq_true] at g; exact hr g.2), flt_nil]
            intro l hl
            obtain ⟨l', _, rfl⟩ := List.mem_map.mp hl
            rw [e]
            simpa using hr
        · rw [if_neg hg, if_neg (by rintro ⟨g1, g⟩; rw [Bool.and_eq_true] at g; exact hg ⟨g1, g.1⟩)]
          rfl
      · have hi := fun s => (ih s).trans (if_pos (show 8 - (k : Int) ≤ c ∧ c < 8 by omega))
        have e : (c - (8 - ((k + 1 : Nat) : Int))).toNat = (c - (8 - (k : Int))).toNat + 1 := by omega
        by_cases hC : C (7 - (k : Int)) = true
        · rw [if_pos hC, if_pos hC, fm_filter]
          apply fm_congr
          intro j hj
          rw [ho _ _ (by omega), hi]
          by_cases hg : bt s j = false ∧ o j (7 - k) = true
          · rw [if_pos hg, if_pos hg, List.filter_map, e]
            rfl
          · rw [if_neg hg, if_neg hg]; rfl
        · rw [if_neg hC, if_neg hC, hi, List.filter_map, e]
          rfl
    · rw [if_neg h]
      have hi := fun s => (ih s).trans (if_neg (show ¬ (8 - (k : Int) ≤ c ∧ c < 8) by omega))
      by_cases hC : C (7 - (k : Int)) = true
      · rw [if_pos hC, if_pos hC]
        apply fm_congr
        intro j hj
        rw [ho _ _ (by omega), hi]
      · rw [if_neg hC, if_neg hC, hi]
theorem lc_flt {f : List Int → Int} {L : List (List Int)} {P : List Int → Bool} {x y : Int × Int} (hx : lcF f L x) (hy : lc f (L.filter P) y) : y.1 = x.1 ↔ ∃ l ∈ L, P l = true ∧ f l = x.1 := by
  have hex : ∀ {L : List (List Int)} {z : Int × Int}, lcF f L z → ∃ l ∈ L, f l = z.1 := by
    intro L z hz
    have := hz.2.2.1
    rw [hz.2.2.2] at this
    obtain ⟨l, hl⟩ := List.exists_mem_of_length_pos (show 0 < (L.filter (fun l => decide (f l = z.1))).length by omega)
    rw [List.mem_filter, decide_eq_true_eq] at hl
    exact ⟨l, hl⟩
  constructor
  · intro h
    rcases hy with ⟨h1, h2⟩ | hy
    · rw [h2] at h
      have := hx.1
      dsimp only at h
      omega
    · obtain ⟨l, h1, h2⟩ := hex hy
      rw [List.mem_filter] at h1
      exact ⟨l, h1.1, h1.2, by omega⟩
  · rintro ⟨l, h1, h2, h3⟩
    have hm : l ∈ L.filter P := List.mem_filter.mpr ⟨h1, h2⟩
    rcases hy with ⟨h4, h5⟩ | hy
    · rw [h4] at hm; cases hm
    · have a := hy.2.1 l hm
      obtain ⟨l', h6, h7⟩ := hex hy
      have b := hx.2.1 l' (List.mem_filter.mp h6).1
      omega
theorem flt_ex {α : Type} {P : α → Bool} {L : List α} : 0 < (L.filter P).length ↔ ∃ l ∈ L, P l = true := by
  constructor
  · intro h
    obtain ⟨l, hl⟩ := List.exists_mem_of_length_pos h
    exact ⟨l, (List.mem_filter.mp hl).1, (List.mem_filter.mp hl).2⟩
  · rintro ⟨l, h1, h2⟩
    exact List.length_pos_of_mem (List.mem_filter.mpr ⟨h1, h2⟩)
/-- what share and with/lacking have to do with each other -/
theorem dpt_F {o : Int → Int → Bool} {b : Int → Int → Int} {C : Int → Bool} (hB : dpB o b) {k : Nat} (hk : k ≤ 8) {s : Int} (hs : mk8 s) : (dpt 0 o b C k s).1 = dpF ↔ (dpt 0 o b C k s).2 = 0 := by
  rcases lc_mts (C := C) hB k hk s hs with ⟨_, h⟩ | h
  · rw [h]; simp
  · have h1 := h.1
    have h2 := h.2.2.1
    constructor <;> intro g <;> omega
theorem with_iff {o : Int → Int → Bool} {b : Int → Int → Int} {C : Int → Bool} (hB : dpB o b) {j c : Int} (hc : 0 ≤ c ∧ c < 8) (hC : C c = true) (hF : (dpt 0 o b C 8 0).1 ≠ dpF) : (dpt 0 (oW o j c) b C 8 0).1 = (dpt 0 o b C 8 0).1 ↔ 0 < cw o b C 8 0 j c := by
  have hx : lcF (tot b 8) (mts o C 8 0) (dpt 0 o b C 8 0) := by
    rcases lc_mts (C := C) hB 8 (Nat.le_refl _) 0 mk_0 with ⟨_, h⟩ | h
    · rw [h] at hF; exact absurd rfl hF
    · exact h
  have hy := lc_mts (C := C) (dpB_w hB (fun _ _ => oW_o (j := j) (c := c))) 8 (Nat.le_refl _) 0 mk_0
  rw [mts_flt (o := o) (c := c) (R := fun x => decide (x = j)) (fun j' c' h => by unfold oW; simp [h]) (fun j' => by unfold oW; simp) hC 8 (Nat.le_refl _), if_pos (by omega)] at hy
  rw [lc_flt hx hy]
  unfold cw bst
  rw [if_pos (by omega), List.filter_filter]
  rw [show (0 : Int) < ((List.filter (fun a => decide (a.getD (c - (8 - ((8 : Nat) : Int))).toNat (-1) = j) && decide (tot b 8 a = (dpt 0 o b C 8 0).1)) (mts o C 8 0)).length : Int) ↔ 0 < (List.filter (fun a => decide (a.getD (c - (8 - ((8 : Nat) : Int))).toNat (-1) = j) && decide (tot b 8 a = (dpt 0 o b C 8 0).1)) (mts o C 8 0)).length by omega]
  rw [flt_ex]
  simp
theorem lack_iff {o : Int → Int → Bool} {b : Int → Int → Int} {C : Int → Bool} (hB : dpB o b) {j c : Int} (hc : 0 ≤ c ∧ c < 8) (hC : C c = true) (hF : (dpt 0 o b C 8 0).1 ≠ dpF) : (dpt 0 (oL o j c) b C 8 0).1 = (dpt 0 o b C 8 0).1 ↔ cw o b C 8 0 j c < (dpt 0 o b C 8 0).2 := by
  have hx : lcF (tot b 8) (mts o C 8 0) (dpt 0 o b C 8 0) := by
    rcases lc_mts (C := C) hB 8 (Nat.le_refl _) 0 mk_0 with ⟨_, h⟩ | h
    · rw [h] at hF; exact absurd rfl hF
    · exact h
  have hy := lc_mts (C := C) (dpB_w hB (fun _ _ => oL_o (j := j) (c := c))) 8 (Nat.le_refl _) 0 mk_0
  rw [mts_flt (o := o) (c := c) (R := fun x => !decide (x = j)) (fun j' c' h => by unfold oL; simp [h]) (fun j' => by unfold oL; simp) hC 8 (Nat.le_refl _), if_pos (by omega)] at hy
  rw [lc_flt hx hy, bst_len hB (Nat.le_refl _) mk_0]
  unfold cw
  rw [if_pos (by omega)]
  have key : ∀ (L : List (List Int)) (P : List Int → Bool), (L.filter P).length < L.length ↔ ∃ l ∈ L, P l = false := by
    intro L P
    constructor
    · intro h
      apply Classical.byContradiction
      intro hn
      have : L.filter P = L := List.filter_eq_self.mpr (fun a ha => by
        cases hp : P a with
        | true => rfl
        | false => exact absurd ⟨a, ha, hp⟩ hn)
      rw [this] at h
      omega
    · rintro ⟨l, h1, h2⟩
      apply Classical.byContradiction
      intro hn
      have := List.length_filter_le P L
      have h3 : (L.filter P).length = L.length := by omega
      rw [List.length_filter_eq_length_iff] at h3
      have := h3 l h1
      rw [h2] at this
      cases this
  rw [Int.ofNat_lt, key]
  unfold bst
  constructor
  · rintro ⟨l, h1, h2, h3⟩
    exact ⟨l, List.mem_filter.mpr ⟨h1, by simpa using h3⟩, by simpa using h2⟩
  · rintro ⟨l, h1, h2⟩
    rw [List.mem_filter] at h1
    exact ⟨l, h1.1, by simpa using h2, by simpa using h1.2⟩
/-! the reference's with, lacking -/
theorem s_with {d : Nat} {j c : Int} {m : jM} {Q : Int → jM → Prop} (hB : dpB (rO (m 128)) (rB (m 128))) (hj : 0 ≤ j ∧ j < 8) (hc : 0 ≤ c ∧ c < 8)
    (h : ∀ m' : jM, (∀ q, q ≠ 128 → q ≠ 129 → q ≠ 130 → q ≠ 132 → m' q = m q) → (∀ x : Int, 0 ≤ x → x < 64 → m' 128 x = m 128 x) → Q (if rO (m 128) j c = true then (dpt 0 (oW (rO (m 128)) j c) (rB (m 128)) (rC (m 104)) 8 0).1 else dpF) m') : jK (d + 3) zX11_with [jO 11 103, jI j, jI c] m Q := by
  have e1 : ∀ x : Int, 0 ≤ x → x < 8 → w32 (w32 (8 * x) + c) = 8 * x + c := by
    intro x h1 h2; simp (disch := omega) only [w32_id]
  refine gX11_with (d + 2) j c m Q ⟨by rw [e1 j hj.1 hj.2]; omega, fun q => ?_, fun q => ?_⟩
  · rw [e1 j hj.1 hj.2] at q
    have := h m (fun _ _ _ _ _ => rfl) (fun _ _ _ => rfl)
    rw [if_neg (by unfold rO; simpa using q)] at this
    exact this
  · rw [e1 j hj.1 hj.2] at q
    have hop : rO (m 128) j c = true := by unfold rO; simpa using q
    rw [if_pos hop] at h
    -- back to how it was
    have L80 : ∀ (r : Nat) (x v : Int) (m1 : jM), 0 ≤ x → x + r = 8 → (∀ q, q ≠ 128 → q ≠ 129 → q ≠ 130 → q ≠ 132 → m1 q = m q) → (∀ x : Int, 0 ≤ x → x < 8 → m1 132 x = m 128 (8 * x + c)) → (∀ y : Int, 0 ≤ y → y < 64 → (y % 8 ≠ c ∨ y / 8 < x) → m1 128 y = m 128 y) → v = (dpt 0 (oW (rO (m 128)) j c) (rB (m 128)) (rC (m 104)) 8 0).1 → aX11_with_80 (d + 2) c v x m1 Q := by
      intro r
      induction r with
      | zero =>
        intro x v m1 h0 hr f1 f2 f3 hv
        refine gX11_with_80 (d + 2) c v x m1 Q ⟨fun q => by omega, fun _ => ?_⟩
        rw [hv]
        exact h m1 f1 (fun y h1 h2 => f3 y h1 h2 (by omega))
      | succ r ih =>
        intro x v m1 h0 hr f1 f2 f3 hv
        refine gX11_with_80 (d + 2) c v x m1 Q ⟨fun _ => ⟨by omega, by rw [e1 x (by omega) (by omega)]; omega, ?_⟩, fun q => by omega⟩
        rw [e1 x (by omega) (by omega), w32_id (z := x + 1) (by omega) (by omega)]
        refine ih (x + 1) v _ (by omega) (by omega) (fun q g1 g2 g3 g4 => by rw [up_ne g1]; exact f1 q g1 g2 g3 g4) (fun y g1 g2 => by rw [up_ne (by omega)]; exact f2 y g1 g2) (fun y g1 g2 g3 => ?_) hv
        rw [up_eq]
        split
        · rename_i he
          rw [f2 x (by omega) (by omega), he]
        · rename_i he
          exact f3 y g1 g2 (by omega)
    have L24 : ∀ (r : Nat) (x : Int) (m1 : jM), 0 ≤ x → x + r = 8 → (∀ q, q ≠ 128 → q ≠ 129 → q ≠ 130 → q ≠ 132 → m1 q = m q) → (∀ y : Int, 0 ≤ y → y < x → m1 132 y = m 128 (8 * y + c)) → (∀ y : Int, 0 ≤ y → y < 64 → m1 128 y = if y % 8 = c ∧ y / 8 < x ∧ y / 8 ≠ j then -1 else m 128 y) → aX11_with_24 (d + 2) j c x m1 Q := by
      intro r
      induction r with
      | zero =>
        intro x m1 h0 hr f1 f2 f3
        have hx : x = 8 := by omega
        subst hx
        have ho : ∀ j' c' : Int, 0 ≤ j' → j' < 8 → 0 ≤ c' → c' < 8 → rO (m1 128) j' c' = oW (rO (m 128)) j c j' c' := by
          intro j' c' g1 g2 g3 g4
          unfold rO oW
          rw [f3 (8 * j' + c') (by omega) (by omega)]
          by_cases hcc : c' = c
          · by_cases hjj : j' = j
            · rw [if_neg (by omega)]; simp [hcc, hjj]
            · rw [if_pos (by omega)]; simp [hcc, hjj]
          · rw [if_neg (by omega)]; simp [hcc]
        have hb : ∀ j' c' : Int, 0 ≤ j' → j' < 8 → 0 ≤ c' → c' < 8 → rO (m1 128) j' c' = true → rB (m1 128) j' c' = rB (m 128) j' c' := by
          intro j' c' g1 g2 g3 g4 g5
          unfold rB
          have := f3 (8 * j' + c') (by omega) (by omega)
          unfold rO at g5
          rw [this] at g5 ⊢
          split
          · rename_i hh
            rw [if_pos hh] at g5
            simp at g5
          · rfl
        have hB' : dpB (rO (m1 128)) (rB (m1 128)) := by
          intro j' c' g1 g2 g3 g4 g5
          rw [hb j' c' g1 g2 g3 g4 g5]
          rw [ho j' c' g1 g2 g3 g4] at g5
          exact hB j' c' g1 g2 g3 g4 (oW_o g5)
        refine gX11_with_24 (d + 2) j c 8 m1 Q ⟨fun q => by omega, fun _ => s_least hB' (fun m2 g1 g2 => ?_)⟩
        have g3 := (g2 8 (Nat.le_refl _) 0 mk_0).1
        rw [show (8 - ((8 : Nat) : Int)) * 256 + 0 = 0 by omega] at g3
        refine L80 8 0 _ m2 (by omega) (by omega) (fun q k1 k2 k3 k4 => by rw [g1 q k2 k3]; exact f1 q k1 k2 k3 k4) (fun y k1 k2 => by rw [g1 132 (by omega) (by omega)]; exact f2 y k1 k2) (fun y k1 k2 k3 => ?_) ?_
        · rw [g1 128 (by omega) (by omega), f3 y k1 k2, if_neg (by omega)]
        · rw [g3, g1 128 (by omega) (by omega), g1 104 (by omega) (by omega), f1 104 (by omega) (by omega) (by omega) (by omega)]
          exact congrArg Prod.fst (dpt_congr (fun _ _ _ => rfl) (fun j' c' k1 k2 k3 k4 _ => ho j' c' k1 k2 k3 k4) (fun j' c' k1 k2 k3 k4 _ k5 => hb j' c' k1 k2 k3 k4 k5) 8 (Nat.le_refl _) 0)
      | succ r ih =>
        intro x m1 h0 hr f1 f2 f3
        have e2 : w32 (x + 1) = x + 1 := w32_id (by omega) (by omega)
        refine gX11_with_24 (d + 2) j c x m1 Q ⟨fun _ => ⟨by rw [e1 x (by omega) (by omega)]; omega, by omega, fun q2 => ?_, fun q2 => ⟨by rw [e1 x (by omega) (by omega)]; omega, ?_⟩⟩, fun q => by omega⟩
        all_goals
          rw [e2, e1 x (by omega) (by omega)]
          have hv := f3 (8 * x + c) (by omega) (by omega)
          rw [if_neg (by omega)] at hv
        · refine ih (x + 1) _ (by omega) (by omega) (fun q g1 g2 g3 g4 => by rw [up_ne g4]; exact f1 q g1 g2 g3 g4) (fun y g1 g2 => ?_) (fun y g1 g2 => ?_)
          · rw [up_eq]
            split
            · rename_i he; rw [hv, he]
            · exact f2 y g1 (by omega)
          · rw [up_ne (by omega), f3 y g1 g2]
            by_cases hy : y % 8 = c ∧ y / 8 < x ∧ y / 8 ≠ j
            · rw [if_pos hy, if_pos (by omega)]
            · rw [if_neg hy, if_neg (by omega)]
        · refine ih (x + 1) _ (by omega) (by omega) (fun q g1 g2 g3 g4 => by rw [up_ne g1, up_ne g4]; exact f1 q g1 g2 g3 g4) (fun y g1 g2 => ?_) (fun y g1 g2 => ?_)
          · rw [up_ne (by omega), up_eq]
            split
            · rename_i he; rw [hv, he]
            · exact f2 y g1 (by omega)
          · rw [up_eq, up_ne (by omega)]
            split
            · rw [if_pos (by omega)]
            · rw [f3 y g1 g2]
              by_cases hy : y % 8 = c ∧ y / 8 < x ∧ y / 8 ≠ j
              · rw [if_pos hy, if_pos (by omega)]
              · rw [if_neg hy, if_neg (by omega)]
    exact L24 8 0 m (by omega) (by omega) (fun _ _ _ _ _ => rfl) (fun y g1 g2 => by omega) (fun y g1 g2 => by rw [if_neg (by omega)])
theorem s_lacking {d : Nat} {j c : Int} {m : jM} {Q : Int → jM → Prop} (hB : dpB (rO (m 128)) (rB (m 128))) (hj : 0 ≤ j ∧ j < 8) (hc : 0 ≤ c ∧ c < 8)
    (h : ∀ m' : jM, (∀ q, q ≠ 128 → q ≠ 129 → q ≠ 130 → q ≠ 132 → m' q = m q) → (∀ x : Int, 0 ≤ x → x < 64 → m' 128 x = m 128 x) → Q (dpt 0 (oL (rO (m 128)) j c) (rB (m 128)) (rC (m 104)) 8 0).1 m') : jK (d + 3) zX11_lacking [jO 11 103, jI j, jI c] m Q := by
  have e1 : w32 (w32 (8 * j) + c) = 8 * j + c := by simp (disch := omega) only [w32_id]
  refine gX11_lacking (d + 2) j c m Q ⟨by omega, by omega, ?_⟩
  rw [e1]
  have ho : ∀ j' c' : Int, 0 ≤ j' → j' < 8 → 0 ≤ c' → c' < 8 → rO (jUp m 128 (8 * j + c) (-1) 128) j' c' = oL (rO (m 128)) j c j' c' := by
    intro j' c' g1 g2 g3 g4
    unfold rO oL
    rw [up_eq]
    by_cases hcc : c' = c ∧ j' = j
    · rw [if_pos (by omega)]; simp [hcc]
    · rw [if_neg (by omega)]
      by_cases h1 : c' = c
      · have : ¬ j' = j := fun g => hcc ⟨h1, g⟩
        simp [h1, this]
      · simp [h1]
  have hb : ∀ j' c' : Int, 0 ≤ j' → j' < 8 → 0 ≤ c' → c' < 8 → rO (jUp m 128 (8 * j + c) (-1) 128) j' c' = true → rB (jUp m 128 (8 * j + c) (-1) 128) j' c' = rB (m 128) j' c' := by
    intro j' c' g1 g2 g3 g4 g5
    unfold rB
    unfold rO at g5
    rw [up_eq] at g5 ⊢
    split
    · rename_i hh
      rw [if_pos hh] at g5
      simp at g5
    · rfl
  have hB' : dpB (rO (jUp m 128 (8 * j + c) (-1) 128)) (rB (jUp m 128 (8 * j + c) (-1) 128)) := by
    intro j' c' g1 g2 g3 g4 g5
    rw [hb j' c' g1 g2 g3 g4 g5]
    rw [ho j' c' g1 g2 g3 g4] at g5
    exact hB j' c' g1 g2 g3 g4 (oL_o g5)
  refine s_least hB' (fun m2 g1 g2 => ⟨by omega, ?_⟩)
  have g3 := (g2 8 (Nat.le_refl _) 0 mk_0).1
  rw [show (8 - ((8 : Nat) : Int)) * 256 + 0 = 0 by omega] at g3
  rw [g3, g1 128 (by omega) (by omega), g1 104 (by omega) (by omega), up_ne (show ¬ (104 : Int) = 128 by omega)]
  rw [dpt_congr (o := rO (jUp m 128 (8 * j + c) (-1) 128)) (o' := oL (rO (m 128)) j c) (b := rB (jUp m 128 (8 * j + c) (-1) 128)) (b' := rB (m 128)) (fun _ _ _ => rfl) (fun j' c' k1 k2 k3 k4 _ => ho j' c' k1 k2 k3 k4) (fun j' c' k1 k2 k3 k4 _ k5 => hb j' c' k1 k2 k3 k4 k5) 8 (Nat.le_refl _) 0]
  refine h _ (fun q k1 k2 k3 k4 => ?_) (fun x k1 k2 => ?_)
  · rw [up_ne k1, g1 q k2 k3, up_ne k1]
  · rw [up_eq]
    split
    · rename_i he; rw [he]
    · rename_i he
      rw [g1 128 (by omega) (by omega), up_oth he]
