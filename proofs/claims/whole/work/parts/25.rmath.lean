/-! rounds: each but the last has a greater GREATEST, or one as great and more marked judges -/
def rS (E : Int → Int → Bool) (C : Int → Prop) (h : Int → Int) : Nat → Int → Prop
  | 0, c => (0 ≤ c ∧ c < 8) ∧ C c ∧ ¬ mD h c
  | k + 1, c => rS E C h k c ∨ ∃ j c' : Int, (0 ≤ j ∧ j < 8) ∧ rS E C h k c' ∧ E j c' = true ∧ h j = c ∧ h j ≠ -1
def rR (E : Int → Int → Bool) (C : Int → Prop) (h : Int → Int) (c : Int) : Prop := ∃ k, rS E C h k c
theorem mV_r {E : Int → Int → Bool} {D : Int → Prop} {h : Int → Int} (hv : mV E D h) {j : Int} (hj : 0 ≤ j ∧ j < 8) (hn : h j ≠ -1) : (0 ≤ h j ∧ h j < 8) ∧ D (h j) ∧ E j (h j) = true := by
  rcases hv.1 j hj.1 hj.2 with g | g
  · exact absurd g hn
  · exact ⟨⟨g.1, g.2.1⟩, g.2.2⟩
theorem mN_set {g : Int → Int} {j c : Int} (hj : g j ≠ -1) (hc : c ≠ -1) : mN (fun y => if y = j then c else g y) = mN g := by
  unfold mN
  refine pcn_ext (fun y y1 y2 => ?_)
  show decide ((if y = j then c else g y) ≠ -1) = decide (g y ≠ -1)
  rw [decide_eq_decide]
  by_cases hy : y = j
  · rw [if_pos hy, hy]
    exact ⟨fun _ => hj, fun _ => hc⟩
  · rw [if_neg hy]
theorem mN_new {g : Int → Int} {j c : Int} (hr : 0 ≤ j ∧ j < 8) (hj : g j = -1) (hc : c ≠ -1) : mN (fun y => if y = j then c else g y) = mN g + 1 := by
  unfold mN
  refine pcn_add (k := j) hr (by simp [hj]) (fun y y1 y2 => ?_)
  show decide ((if y = j then c else g y) ≠ -1) = (decide (g y ≠ -1) || decide (y = j))
  by_cases hy : y = j
  · rw [if_pos hy, hy]; simp [hc]
  · rw [if_neg hy]; simp [hy]
theorem rS_g {E : Int → Int → Bool} {C : Int → Prop} {h : Int → Int} (hv : mV E C h) (k : Nat) : ∀ c : Int, rS E C h k c → (0 ≤ c ∧ c < 8) ∧ C c ∧ ∃ g, mV E C g ∧ mN g = mN h ∧ ¬ mD g c ∧ ∀ j : Int, 0 ≤ j → j < 8 → g j = h j ∨ (h j ≠ -1 ∧ rS E C h k (h j)) := by
  induction k with
  | zero => intro c hc; exact ⟨hc.1, hc.2.1, h, hv, rfl, hc.2.2, fun j _ _ => Or.inl rfl⟩
  | succ k ih =>
    intro x hx
    have old : ∀ x : Int, rS E C h k x → (0 ≤ x ∧ x < 8) ∧ C x ∧ ∃ g, mV E C g ∧ mN g = mN h ∧ ¬ mD g x ∧ ∀ j : Int, 0 ≤ j → j < 8 → g j = h j ∨ (h j ≠ -1 ∧ rS E C h (k + 1) (h j)) := by
      intro x hx
      obtain ⟨a1, a2, g, a3, a4, a5, a6⟩ := ih x hx
      exact ⟨a1, a2, g, a3, a4, a5, fun j j1 j2 => (a6 j j1 j2).imp id (fun q => ⟨q.1, Or.inl q.2⟩)⟩
    by_cases hxk : rS E C h k x
    · exact old x hxk
    · rcases hx with hx | ⟨j, c, hj, hc, hE, hjx, hn⟩
      · exact absurd hx hxk
      · obtain ⟨b1, b2, b3⟩ := mV_r hv hj hn
        obtain ⟨a1, a2, g, a3, a4, a5, a6⟩ := ih c hc
        have hgj : g j = h j := by
          rcases a6 j hj.1 hj.2 with q | q
          · exact q
          · rw [hjx] at q; exact absurd q.2 hxk
        have hcx : c ≠ x := by rintro rfl; exact hxk hc
        refine ⟨by rw [← hjx]; exact b1, by rw [← hjx]; exact b2, fun y => if y = j then c else g y, mV_w (mV_set a3 hj a1 hE (fun y y1 y2 _ y4 => a5 ⟨y, y1, y2, y4⟩)) (fun y hy => by rcases hy with hy | hy; exact hy; rw [hy]; exact a2), by rw [mN_set (by rw [hgj]; exact hn) (by omega), a4], ?_, fun i i1 i2 => ?_⟩
        · rintro ⟨y, y1, y2, y3⟩
          dsimp only at y3
          by_cases hy : y = j
          · rw [if_pos hy] at y3; exact hcx y3
          · rw [if_neg hy] at y3
            exact hy (a3.2 y j y1 y2 hj.1 hj.2 (by rw [hgj, y3, hjx]) (by rw [y3, ← hjx]; omega))
        · dsimp only
          by_cases hy : i = j
          · right
            rw [hy]
            exact ⟨hn, Or.inr ⟨j, c, hj, hc, hE, rfl, hn⟩⟩
          · rw [if_neg hy]
            exact (a6 i i1 i2).imp id (fun q => ⟨q.1, Or.inl q.2⟩)
theorem rR_C {E : Int → Int → Bool} {C : Int → Prop} {h : Int → Int} (hv : mV E C h) (hm : ∀ g, mV E C g → mN g ≤ mN h) : mC E C h (rR E C h) := by
  refine ⟨fun c c1 c2 c3 c4 => ⟨0, ⟨c1, c2⟩, c3, c4⟩, fun c j ⟨k, hk⟩ j1 j2 hE => ?_⟩
  obtain ⟨a1, a2, g, a3, a4, a5, a6⟩ := rS_g hv k c hk
  have hn : h j ≠ -1 := by
    intro hn
    have hgj : g j = -1 := by
      rcases a6 j j1 j2 with q | q
      · rw [q]; exact hn
      · exact absurd hn q.1
    have := hm _ (mV_w (mV_set a3 ⟨j1, j2⟩ a1 hE (fun y y1 y2 _ y4 => a5 ⟨y, y1, y2, y4⟩)) (fun y hy => by rcases hy with hy | hy; exact hy; rw [hy]; exact a2))
    rw [mN_new ⟨j1, j2⟩ hgj (by omega)] at this
    omega
  exact ⟨hn, k + 1, Or.inr ⟨j, c, ⟨j1, j2⟩, hk, hE, rfl, hn⟩⟩
theorem mV_out {E : Int → Int → Bool} {C : Int → Prop} {g : Int → Int} {c : Int} (hg : mV E C g) (hn : ¬ mD g c) : mV E (fun x => C x ∧ x ≠ c) g :=
  ⟨fun j j1 j2 => (hg.1 j j1 j2).imp id (fun k => ⟨k.1, k.2.1, ⟨k.2.2.1, fun e => hn ⟨j, j1, j2, e⟩⟩, k.2.2.2⟩), hg.2⟩
/-- no greatest one leaves out what isn't in the closed set -/
theorem cert_out {E : Int → Int → Bool} {C X : Int → Prop} {h g : Int → Int} {c : Int} (hv : mV E C h) (hC : mC E C h X) (hc : 0 ≤ c ∧ c < 8) (hCc : C c) (hX : ¬ X c) (hg : mV E (fun x => C x ∧ x ≠ c) g) : mN g < mN h := by
  have hm : mD h c := Classical.byContradiction fun hn => hX (hC.1 c hc.1 hc.2 hCc hn)
  obtain ⟨jc, j1, j2, j3⟩ := hm
  have hv0 : mV E (fun x => C x ∧ x ≠ c) (rel1 h jc) := by
    refine mV_out (mV_rel (j := jc) hv) ?_
    rintro ⟨j, k1, k2, k3⟩
    unfold rel1 at k3
    by_cases hj : j = jc
    · rw [if_pos hj] at k3; omega
    · rw [if_neg hj] at k3
      exact hj (hv.2 j jc k1 k2 j1 j2 (by rw [k3, j3]) (by rw [k3]; omega))
  have hC0 : mC E (fun x => C x ∧ x ≠ c) (rel1 h jc) X := by
    refine ⟨fun x x1 x2 x3 x4 => hC.1 x x1 x2 x3.1 (fun ⟨j, k1, k2, k3⟩ => x4 ⟨j, k1, k2, ?_⟩), fun x j x1 k1 k2 k3 => ?_⟩
    · unfold rel1
      rw [if_neg (by rintro rfl; exact x3.2 (by rw [← k3, j3]))]
      exact k3
    · obtain ⟨b1, b2⟩ := hC.2 x j x1 k1 k2 k3
      have hne : j ≠ jc := by rintro rfl; rw [j3] at b2; exact hX b2
      unfold rel1
      rw [if_neg hne]
      exact ⟨b1, b2⟩
  have h1 := cert_max hv0 hC0 hg
  have h2 : mN h = mN (rel1 h jc) + 1 := by
    unfold mN
    refine pcn_add (k := jc) ⟨j1, j2⟩ (by unfold rel1; simp) (fun x x1 x2 => ?_)
    unfold rel1
    by_cases hx : x = jc
    · rw [if_pos hx, hx, j3]
      have : c ≠ -1 := by omega
      simp [this]
    · rw [if_neg hx]; simp [hx]
  omega
theorem mMk_R {E : Int → Int → Bool} {C : Int → Prop} {A B n : Int} {h : Int → Int} (hM : mMk E C A B n) (hv : mV E C h) (hn : mN h = n) : mC E C h (rR E C h) ∧ ∀ c : Int, 0 ≤ c → c < 8 → (bt A c = true ↔ rR E C h c) := by
  have hm : ∀ g, mV E C g → mN g ≤ mN h := fun g hg => by rw [hn]; exact hM.1.2 g hg
  have hC := rR_C hv hm
  refine ⟨hC, fun c c1 c2 => ?_⟩
  rw [hM.2.2.1 c c1 c2]
  constructor
  · rintro ⟨g1, n', ⟨⟨g, g2, g3⟩, g4⟩, g5⟩
    apply Classical.byContradiction
    intro hX
    have := cert_out hv hC ⟨c1, c2⟩ g1 hX g2
    omega
  · rintro ⟨k, hk⟩
    obtain ⟨a1, a2, g, a3, a4, a5, a6⟩ := rS_g hv k c hk
    exact ⟨a2, n, ⟨⟨g, mV_out a3 a5, by rw [a4, hn]⟩, fun g hg => hM.1.2 g (mV_w hg (fun x hx => hx.1))⟩, Int.le_refl _⟩
theorem mMk_step {E E' : Int → Int → Bool} {C : Int → Prop} {A B n A' B' n' j0 c0 : Int} (hM : mMk E C A B n) (hM' : mMk E' C A' B' n')
    (hsame : ∀ j c : Int, 0 ≤ j → j < 8 → 0 ≤ c → c < 8 → C c → (bt A c = bt B j) → E' j c = E j c) (hj0 : 0 ≤ j0 ∧ j0 < 8) (hc0 : 0 ≤ c0 ∧ c0 < 8) (hA0 : bt A c0 = true) (hB0 : bt B j0 = false) (hE0 : E' j0 c0 = true) :
    n < n' ∨ (n = n' ∧ pc8 B + 1 ≤ pc8 B') := by
  obtain ⟨⟨h, hv, hn⟩, hmax⟩ := hM.1
  obtain ⟨hC, hR⟩ := mMk_R hM hv hn
  have hAC : ∀ c : Int, 0 ≤ c → c < 8 → bt A c = true → C c := fun c c1 c2 g => ((hM.2.2.1 c c1 c2).mp g).1
  -- the pairs of h stay
  have hv' : mV E' C h := by
    refine ⟨fun j j1 j2 => (hv.1 j j1 j2).imp id (fun q => ⟨q.1, q.2.1, q.2.2.1, ?_⟩), hv.2⟩
    rw [hsame j (h j) j1 j2 q.1 q.2.1 q.2.2.1]
    · exact q.2.2.2
    · cases hb : bt A (h j) with
      | true => exact ((hM.2.2.2.2 j j1 j2).mpr ⟨h j, q.1, q.2.1, hb, q.2.2.2⟩).symm
      | false =>
        cases hbj : bt B j with
        | false => rfl
        | true =>
          obtain ⟨c, c1, c2, c3, c4⟩ := (hM.2.2.2.2 j j1 j2).mp hbj
          have := hC.2 c j ((hR c c1 c2).mp c3) j1 j2 c4
          rw [(hR _ q.1 q.2.1).mpr this.2] at hb
          cases hb
  have hle := hM'.1.2 h hv'
  rw [hn] at hle
  by_cases hlt : n < n'
  · exact Or.inl hlt
  · right
    have hnn : n = n' := by omega
    refine ⟨hnn, ?_⟩
    obtain ⟨hC', hR'⟩ := mMk_R hM' hv' (by rw [hn, hnn])
    -- what was marked stays so
    have hsub : ∀ k c, rS E C h k c → rR E' C h c := by
      intro k
      induction k with
      | zero => intro c hc; exact ⟨0, hc⟩
      | succ k ih =>
        rintro c (hc | ⟨j, c', hj, hc', hE, hjc, hne⟩)
        · exact ih c hc
        · obtain ⟨a1, a2, _⟩ := rS_g hv k c' hc'
          have hAc : bt A c' = true := (hR c' a1.1 a1.2).mpr ⟨k, hc'⟩
          have hBj : bt B j = true := (hM.2.2.2.2 j hj.1 hj.2).mpr ⟨c', a1.1, a1.2, hAc, hE⟩
          have hE' : E' j c' = true := by rw [hsame j c' hj.1 hj.2 a1.1 a1.2 a2 (by rw [hAc, hBj])]; exact hE
          have := hC'.2 c' j (ih c' hc') hj.1 hj.2 hE'
          rw [← hjc]
          exact this.2
    have hA : ∀ c : Int, 0 ≤ c → c < 8 → bt A c = true → bt A' c = true := by
      intro c c1 c2 g
      obtain ⟨k, hk⟩ := (hR c c1 c2).mp g
      exact (hR' c c1 c2).mpr (hsub k c hk)
    rw [← pc8_1 hj0 hB0]
    refine pcn_inj (f := id) (fun j j1 j2 g => ⟨j1, j2, ?_⟩) (fun _ _ _ _ _ _ _ _ e => e)
    show bt B' j = true
    rw [hM'.2.2.2.2 j j1 j2]
    rcases (bt_or1 hj0 ⟨j1, j2⟩).mp g with g | g
    · obtain ⟨c, c1, c2, c3, c4⟩ := (hM.2.2.2.2 j j1 j2).mp g
      exact ⟨c, c1, c2, hA c c1 c2 c3, by rw [hsame j c j1 j2 c1 c2 (hAC c c1 c2 c3) (by rw [c3, g])]; exact c4⟩
    · rw [g]
      exact ⟨c0, hc0.1, hc0.2, hA c0 hc0.1 hc0.2 hA0, hE0⟩
theorem mMk_le {E : Int → Int → Bool} {C : Int → Prop} {A B n : Int} (hM : mMk E C A B n) : 0 ≤ n ∧ n ≤ 8 ∧ pc8 B ≤ n := by
  obtain ⟨⟨h, hv, hn⟩, hmax⟩ := hM.1
  obtain ⟨hC, hR⟩ := mMk_R hM hv hn
  have h1 : 0 ≤ mN h ∧ mN h ≤ 8 := pcn_nn _ 8
  refine ⟨by omega, by omega, ?_⟩
  rw [← hn]
  refine pcn_inj (f := id) (fun j j1 j2 g => ⟨j1, j2, ?_⟩) (fun _ _ _ _ _ _ _ _ e => e)
  rw [decide_eq_true_eq]
  obtain ⟨c, c1, c2, c3, c4⟩ := (hM.2.2.2.2 j j1 j2).mp g
  exact (hC.2 c j ((hR c c1 c2).mp c3) j1 j2 c4).1
/-- there is always one -/
theorem mMx_ex (E : Int → Int → Bool) (C : Int → Prop) : ∃ n, mMx E C n := by
  have key : ∀ k : Nat, (∃ h, mV E C h ∧ 8 - k ≤ mN h) → ∃ n, mMx E C n := by
    intro k
    induction k with
    | zero =>
      rintro ⟨h, hv, hn⟩
      refine ⟨mN h, ⟨h, hv, rfl⟩, fun g _ => ?_⟩
      have h1 : 0 ≤ mN g ∧ mN g ≤ 8 := pcn_nn _ 8
      omega
    | succ k ih =>
      rintro ⟨h, hv, hn⟩
      by_cases hx : ∃ g, mV E C g ∧ 8 - (k : Int) ≤ mN g
      · exact ih hx
      · refine ⟨mN h, ⟨h, hv, rfl⟩, fun g hg => ?_⟩
        have : ¬ 8 - (k : Int) ≤ mN g := fun q => hx ⟨g, hg, q⟩
        omega
  refine key 8 ⟨fun _ => -1, ⟨fun _ _ _ => Or.inl rfl, fun _ _ _ _ _ _ _ g => absurd rfl g⟩, ?_⟩
  have h1 : 0 ≤ mN (fun _ => -1) ∧ mN (fun _ => -1) ≤ 8 := pcn_nn _ 8
  omega
/-- the mask of a set -/
def mkf (f : Int → Bool) : Nat → Int
  | 0 => 0
  | n + 1 => if f n = true then iOr (mkf f n) (iShl 1 n) else mkf f n
theorem mkf_ok (f : Int → Bool) (n : Nat) (hn : n ≤ 8) : mk8 (mkf f n) ∧ ∀ j : Int, 0 ≤ j → j < 8 → (bt (mkf f n) j = true ↔ j < n ∧ f j = true) := by
  induction n with
  | zero => exact ⟨mk_0, fun j j1 j2 => by rw [show mkf f 0 = 0 from rfl, bt_0]; exact ⟨(fun g => by cases g), (fun g => by omega)⟩⟩
  | succ n ih =>
    obtain ⟨a, b⟩ := ih (by omega)
    have hn8 : 0 ≤ (n : Int) ∧ (n : Int) < 8 := by omega
    have e : mkf f (n + 1) = if f n = true then iOr (mkf f n) (iShl 1 n) else mkf f n := rfl
    rw [e]
    by_cases hf : f n = true
    · rw [if_pos hf]
      refine ⟨mk_or1 a hn8, fun j j1 j2 => ?_⟩
      rw [bt_or1 hn8 ⟨j1, j2⟩, b j j1 j2]
      constructor
      · rintro (g | g)
        · exact ⟨by omega, g.2⟩
        · rw [g]; exact ⟨by omega, hf⟩
      · intro g
        by_cases hj : j = n
        · exact Or.inr hj
        · exact Or.inl ⟨by omega, g.2⟩
    · rw [if_neg hf]
      refine ⟨a, fun j j1 j2 => ?_⟩
      rw [b j j1 j2]
      constructor
      · intro g; exact ⟨by omega, g.2⟩
      · intro g
        have : j ≠ n := by rintro rfl; exact hf g.2
        exact ⟨by omega, g.2⟩
theorem msk_ex (P : Int → Prop) : ∃ A : Int, mk8 A ∧ ∀ c : Int, 0 ≤ c → c < 8 → (bt A c = true ↔ P c) := by
  obtain ⟨a1, a2⟩ := mkf_ok (fun c => bP (P c)) 8 (Nat.le_refl _)
  refine ⟨_, a1, fun c c1 c2 => ?_⟩
  rw [a2 c c1 c2, bP_t]
  exact ⟨fun g => g.2, fun g => ⟨by omega, g⟩⟩
theorem mMk_ex (E : Int → Int → Bool) (C : Int → Prop) : ∃ q : Int × Int × Int, mMk E C q.2.1 q.2.2 q.1 := by
  obtain ⟨n, hn⟩ := mMx_ex E C
  obtain ⟨A, a1, a2⟩ := msk_ex (fun c => C c ∧ ∃ n', mMx E (fun x => C x ∧ x ≠ c) n' ∧ n ≤ n')
  obtain ⟨B, b1, b2⟩ := msk_ex (fun j => ∃ c : Int, 0 ≤ c ∧ c < 8 ∧ bt A c = true ∧ E j c = true)
  exact ⟨(n, A, B), hn, a1, a2, b1, b2⟩
