/-! the reference's finds, greatest, marking -/
def mMx (E : Int → Int → Bool) (D : Int → Prop) (n : Int) : Prop := (∃ h, mV E D h ∧ mN h = n) ∧ ∀ h, mV E D h → mN h ≤ n
def mMk (E : Int → Int → Bool) (C : Int → Prop) (A B n : Int) : Prop := mMx E C n ∧ mk8 A ∧ (∀ c : Int, 0 ≤ c → c < 8 → (bt A c = true ↔ (C c ∧ ∃ n', mMx E (fun x => C x ∧ x ≠ c) n' ∧ n ≤ n'))) ∧ mk8 B ∧ ∀ j : Int, 0 ≤ j → j < 8 → (bt B j = true ↔ ∃ c : Int, 0 ≤ c ∧ c < 8 ∧ bt A c = true ∧ E j c = true)
theorem mMx_u {E : Int → Int → Bool} {D : Int → Prop} {n n' : Int} (h : mMx E D n) (h' : mMx E D n') : n = n' := by
  obtain ⟨⟨g, g1, g2⟩, g3⟩ := h
  obtain ⟨⟨k, k1, k2⟩, k3⟩ := h'
  have := g3 k k1
  have := k3 g g1
  omega
theorem mV_E {E E' : Int → Int → Bool} {D D' : Int → Prop} {h : Int → Int} (hD : ∀ c : Int, 0 ≤ c → c < 8 → D c → D' c) (hE : ∀ j c : Int, 0 ≤ j → j < 8 → 0 ≤ c → c < 8 → D c → E j c = true → E' j c = true) (hv : mV E D h) : mV E' D' h :=
  ⟨fun j g1 g2 => (hv.1 j g1 g2).imp id (fun g => ⟨g.1, g.2.1, hD _ g.1 g.2.1 g.2.2.1, hE j _ g1 g2 g.1 g.2.1 g.2.2.1 g.2.2.2⟩), hv.2⟩
theorem mMx_E {E E' : Int → Int → Bool} {D D' : Int → Prop} {n : Int} (hD : ∀ c : Int, 0 ≤ c → c < 8 → (D c ↔ D' c)) (hE : ∀ j c : Int, 0 ≤ j → j < 8 → 0 ≤ c → c < 8 → D c → E j c = E' j c) (h : mMx E D n) : mMx E' D' n := by
  obtain ⟨⟨g, g1, g2⟩, g3⟩ := h
  refine ⟨⟨g, mV_E (fun c k1 k2 k3 => (hD c k1 k2).mp k3) (fun j c k1 k2 k3 k4 k5 k6 => by rw [← hE j c k1 k2 k3 k4 k5]; exact k6) g1, g2⟩, fun k hk => g3 k (mV_E (fun c k1 k2 k3 => (hD c k1 k2).mpr k3) (fun j c k1 k2 k3 k4 k5 k6 => by rw [hE j c k1 k2 k3 k4 ((hD c k3 k4).mpr k5)]; exact k6) hk)⟩
theorem mMk_u {E E' : Int → Int → Bool} {C C' : Int → Prop} {A B n A' B' n' : Int} (hC : ∀ c : Int, 0 ≤ c → c < 8 → (C c ↔ C' c)) (hE : ∀ j c : Int, 0 ≤ j → j < 8 → 0 ≤ c → c < 8 → C c → E j c = E' j c) (h : mMk E C A B n) (h' : mMk E' C' A' B' n') : A = A' ∧ B = B' ∧ n = n' := by
  obtain ⟨a1, a2, a3, a4, a5⟩ := h
  obtain ⟨b1, b2, b3, b4, b5⟩ := h'
  have hn : n = n' := mMx_u (mMx_E hC hE a1) b1
  have hA : A = A' := by
    refine mk_ext a2 b2 (fun c h1 h2 => ?_)
    have e : bt A c = true ↔ bt A' c = true := by
      rw [a3 c h1 h2, b3 c h1 h2, hC c h1 h2, hn]
      refine and_congr_right (fun hc => ?_)
      constructor
      · rintro ⟨x, hx, hx2⟩
        exact ⟨x, mMx_E (fun y k1 k2 => by rw [hC y k1 k2]) (fun j y k1 k2 k3 k4 k5 => hE j y k1 k2 k3 k4 k5.1) hx, hx2⟩
      · rintro ⟨x, hx, hx2⟩
        exact ⟨x, mMx_E (fun y k1 k2 => by rw [hC y k1 k2]) (fun j y k1 k2 k3 k4 k5 => (hE j y k1 k2 k3 k4 ((hC y k3 k4).mpr k5.1)).symm) hx, hx2⟩
    revert e
    cases bt A c <;> cases bt A' c <;> simp
  refine ⟨hA, ?_, hn⟩
  refine mk_ext a4 b4 (fun j h1 h2 => ?_)
  have e : bt B j = true ↔ bt B' j = true := by
    rw [a5 j h1 h2, b5 j h1 h2, ← hA]
    constructor
    · rintro ⟨c, k1, k2, k3, k4⟩
      exact ⟨c, k1, k2, k3, by rw [← hE j c h1 h2 k1 k2 ((a3 c k1 k2).mp k3).1]; exact k4⟩
    · rintro ⟨c, k1, k2, k3, k4⟩
      exact ⟨c, k1, k2, k3, by rw [hE j c h1 h2 k1 k2 ((a3 c k1 k2).mp k3).1]; exact k4⟩
  revert e
  cases bt B j <;> cases bt B' j <;> simp
theorem bt_or1 {x k j : Int} (hk : 0 ≤ k ∧ k < 8) (hj : 0 ≤ j ∧ j < 8) : bt (iOr x (iShl 1 k)) j = true ↔ bt x j = true ∨ j = k := by
  rw [bt_or, bt_one (by omega) (by omega), Bool.or_eq_true, decide_eq_true_eq]
theorem s_finds (d : Nat) (f : Nat) : ∀ {c : Int} {m : jM} {Q : Int → jM → Prop}, mk8 (m 103 61) → 8 - pc8 (m 103 61) ≤ f → 0 ≤ c ∧ c < 8 → (∀ j : Int, 0 ≤ j → j < 8 → m 145 j = -1 ∨ (0 ≤ m 145 j ∧ m 145 j < 8)) →
    (∀ (m' : jM) (p : List Int), pth (pO (m 144)) (m 145) c p → p.Nodup → (∀ j ∈ p, bt (m 103 61) j = false) → (∀ q, q ≠ 103 → q ≠ 145 → m' q = m q) → (∀ j, j ≠ 61 → m' 103 j = m 103 j) → (∀ j, m' 145 j = flp (m 145) c p j) → Q 1 m') →
    (∀ m' : jM, (∀ q, q ≠ 103 → m' q = m q) → (∀ j, j ≠ 61 → m' 103 j = m 103 j) → mk8 (m' 103 61) → (∀ j : Int, 0 ≤ j → j < 8 → bt (m 103 61) j = true → bt (m' 103 61) j = true) → (∀ j : Int, 0 ≤ j → j < 8 → pO (m 144) j c = true → bt (m' 103 61) j = true) →
      (∀ j : Int, 0 ≤ j → j < 8 → bt (m' 103 61) j = true → bt (m 103 61) j = false → m 145 j ≠ -1 ∧ ∀ j' : Int, 0 ≤ j' → j' < 8 → pO (m 144) j' (m 145 j) = true → bt (m' 103 61) j' = true) → Q 0 m') →
    jK (d + f + 1) zX11_finds [jO 11 103, jI c] m Q := by
  induction f using Nat.strongRecOn with
  | ind f ih =>
    intro c m Q hS hf hc hh hT hF
    have loop : ∀ (r : Nat) (j : Int) (m1 : jM), 0 ≤ j → j + r = 8 → (∀ q, q ≠ 103 → m1 q = m q) → (∀ j, j ≠ 61 → m1 103 j = m 103 j) → mk8 (m1 103 61) → 8 - pc8 (m1 103 61) ≤ f → (∀ j : Int, 0 ≤ j → j < 8 → bt (m 103 61) j = true → bt (m1 103 61) j = true) → (∀ j' : Int, 0 ≤ j' → j' < j → pO (m 144) j' c = true → bt (m1 103 61) j' = true) →
        (∀ j : Int, 0 ≤ j → j < 8 → bt (m1 103 61) j = true → bt (m 103 61) j = false → m 145 j ≠ -1 ∧ ∀ j' : Int, 0 ≤ j' → j' < 8 → pO (m 144) j' (m 145 j) = true → bt (m1 103 61) j' = true) → aX11_finds_2 (d + f) c j m1 Q := by
      intro r
      induction r with
      | zero =>
        intro j m1 hj hr f0 f1 f2 f3 f4 f5 f6
        refine gX11_finds_2 (d + f) c j m1 Q ⟨fun q => by omega, fun _ => hF m1 f0 f1 f2 f4 (fun x h1 h2 h3 => f5 x h1 (by omega) h3) f6⟩
      | succ r ihr =>
        intro j m1 hj hr f0 f1 f2 f3 f4 f5 f6
        have ej : w32 (j + 1) = j + 1 := w32_id (by omega) (by omega)
        have k145 := f0 144 (by omega)
        have k146 := f0 145 (by omega)
        have hj8 : 0 ≤ j ∧ j < 8 := by omega
        have skip : (pO (m 144) j c = true → bt (m1 103 61) j = true) → aX11_finds_2 (d + f) c (w32 (j + 1)) m1 Q := by
          intro hs
          rw [ej]
          refine ihr (j + 1) m1 (by omega) (by omega) f0 f1 f2 f3 f4 (fun x h1 h2 h3 => ?_) f6
          by_cases hx : x = j
          · rw [hx] at h3 ⊢; exact hs h3
          · exact f5 x h1 (by omega) h3
        have e146 : jUp m1 103 61 (iOr (m1 103 61) (iShl 1 j)) 145 = m 145 := by rw [up_ne (by omega)]; exact k146
        refine gX11_finds_2 (d + f) c j m1 Q ⟨fun _ => ⟨hc, fun q => skip ?_, fun q => ⟨fun q2 => skip ?_, fun q2 => ⟨hj8, fun q3 => ⟨hj8, ?_⟩, fun q3 => ⟨hj8, ?_⟩⟩⟩⟩, fun q => by omega⟩
        · rw [k145, bt_sh0 (by omega)] at q
          intro h; unfold pO at h; rw [q] at h; cases h
        · rw [bt_shr (by omega)] at q2
          exact fun _ => q2
        all_goals
          rw [k145, bt_sh0 (by omega)] at q
          rw [bt_shr (by omega)] at q2
          have hE : pO (m 144) j c = true := by unfold pO; simpa using q
          have hnb : bt (m1 103 61) j = false := by simpa using q2
          have hnb0 : bt (m 103 61) j = false := by
            cases hb : bt (m 103 61) j with
            | false => rfl
            | true => rw [f4 j hj8.1 hj8.2 hb] at hnb; cases hnb
          rw [e146] at q3
        · refine hT _ [j] ⟨hj8, hE, Or.inl ⟨rfl, q3⟩⟩ (by simp) (fun x hx => by rw [List.mem_singleton] at hx; rw [hx]; exact hnb0) (fun q h1 h2 => by rw [up_ne h2, up_ne h1]; exact f0 q h1) (fun x hx => by rw [up_ne (by omega), up_oth hx]; exact f1 x hx) (fun x => ?_)
          rw [up_eq, e146]
          rfl
        · have hpr := pc8_r (m1 103 61)
          have hp1 := pc8_1 hj8 hnb
          have hpr2 := pc8_r (iOr (m1 103 61) (iShl 1 j))
          have hhj : 0 ≤ m 145 j ∧ m 145 j < 8 := by
            rcases hh j hj8.1 hj8.2 with g | g
            · exact absurd g q3
            · exact g
          have es : jUp m1 103 61 (iOr (m1 103 61) (iShl 1 j)) 103 61 = iOr (m1 103 61) (iShl 1 j) := up_same
          have e145 : jUp m1 103 61 (iOr (m1 103 61) (iShl 1 j)) 144 = m 144 := by rw [up_ne (by omega)]; exact k145
          rw [show d + f = d + (f - 1) + 1 by omega, e146]
          refine ih (f - 1) (by omega) (by rw [es]; exact mk_or1 f2 hj8) (by rw [es]; omega) hhj (by rw [e146]; exact hh) (fun m' p p1 p2 p3 p4 p5 p6 => ⟨fun g => by omega, fun _ => ⟨hj8, ?_⟩⟩) (fun m' p1 p2 p3 p4 p5 p6 => ⟨fun _ => ?_, fun g => by omega⟩)
          · rw [e145, e146] at p1
            rw [e146] at p6
            rw [es] at p3
            have hjp : j ∉ p := fun hx => by
              have := p3 j hx
              rw [(bt_or1 hj8 hj8).mpr (Or.inr rfl)] at this
              cases this
            have hpr : ∀ x ∈ p, 0 ≤ x ∧ x < 8 := by
              have : ∀ {p : List Int} {c : Int}, pth (pO (m 144)) (m 145) c p → ∀ x ∈ p, 0 ≤ x ∧ x < 8 := by
                intro p
                induction p with
                | nil => intro c _ x hx; cases hx
                | cons a p ihp =>
                  intro c hp x hx
                  obtain ⟨g1, g2, g3⟩ := hp
                  rcases List.mem_cons.mp hx with rfl | hx
                  · exact g1
                  · rcases g3 with ⟨g, _⟩ | ⟨_, g⟩
                    · rw [g] at hx; cases hx
                    · exact ihp g x hx
              exact this p1
            refine hT _ (j :: p) ⟨hj8, hE, Or.inr ⟨q3, p1⟩⟩ (List.nodup_cons.mpr ⟨hjp, p2⟩) (fun x hx => ?_) (fun q h1 h2 => by rw [up_ne h2, p4 q h1 h2, up_ne h1]; exact f0 q h1) (fun x hx => by rw [up_ne (by omega), p5 x hx, up_oth hx]; exact f1 x hx) (fun x => ?_)
            · rcases List.mem_cons.mp hx with rfl | hx
              · exact hnb0
              · have := p3 x hx
                have hxr := hpr x hx
                cases hb : bt (m 103 61) x with
                | false => rfl
                | true =>
                  rw [(bt_or1 hj8 hxr).mpr (Or.inl (f4 x hxr.1 hxr.2 hb))] at this
                  cases this
            · rw [up_eq, p6]
              rfl
          · rw [es] at p4 p6
            rw [e145] at p5 p6
            rw [e146] at p6
            have hsj : bt (m' 103 61) j = true := p4 j hj8.1 hj8.2 ((bt_or1 hj8 hj8).mpr (Or.inr rfl))
            have hmono : ∀ x : Int, 0 ≤ x → x < 8 → bt (m1 103 61) x = true → bt (m' 103 61) x = true := fun x h1 h2 h3 => p4 x h1 h2 ((bt_or1 hj8 ⟨h1, h2⟩).mpr (Or.inl h3))
            rw [show d + (f - 1) + 1 = d + f by omega, ej]
            refine ihr (j + 1) m' (by omega) (by omega) (fun q h1 => by rw [p1 q h1, up_ne h1]; exact f0 q h1) (fun x hx => by rw [p2 x hx, up_oth hx]; exact f1 x hx) p3 ?_ (fun x h1 h2 h3 => hmono x h1 h2 (f4 x h1 h2 h3)) (fun x h1 h2 h3 => ?_) (fun x h1 h2 h3 h4 => ?_)
            · have : pc8 (m1 103 61) ≤ pc8 (m' 103 61) := pcn_inj (f := id) (fun x g1 g2 g3 => ⟨g1, g2, hmono x g1 g2 g3⟩) (fun x y _ _ _ _ _ _ e => e)
              omega
            · by_cases hx : x = j
              · rw [hx]; exact hsj
              · exact hmono x h1 (by omega) (f5 x h1 (by omega) h3)
            · by_cases hx : x = j
              · rw [hx]
                exact ⟨q3, p5⟩
              · by_cases hb : bt (m1 103 61) x = true
                · obtain ⟨g1, g2⟩ := f6 x h1 h2 hb h4
                  exact ⟨g1, fun y y1 y2 y3 => hmono y y1 y2 (g2 y y1 y2 y3)⟩
                · refine p6 x h1 h2 h3 ?_
                  cases hb2 : bt (iOr (m1 103 61) (iShl 1 j)) x with
                  | false => rfl
                  | true =>
                    rcases (bt_or1 hj8 ⟨h1, h2⟩).mp hb2 with g | g
                    · exact absurd g hb
                    · exact absurd g hx
    refine gX11_finds (d + f) c m Q (loop 8 0 m (by omega) (by omega) (fun _ _ => rfl) (fun _ _ => rfl) hS hf (fun _ _ _ h => h) (fun j' h1 h2 => by omega) (fun j h1 h2 h3 h4 => by rw [h3] at h4; cases h4))
theorem s_greatest {d : Nat} {a : Int} {m : jM} {Q : Int → jM → Prop}
    (h : ∀ (m' : jM) (n : Int), (∀ q, q ≠ 103 → q ≠ 145 → m' q = m q) → (∀ j, j ≠ 61 → m' 103 j = m 103 j) → mMx (pO (m 144)) (fun c => rC (m 104) c = true ∧ c ≠ a) n → (0 ≤ n ∧ n ≤ 8) → Q n m') : jK (d + 10) zX11_greatest [jO 11 103, jI a] m Q := by
  have L25 : ∀ (r : Nat) (n c : Int) (m1 : jM) (X : Int → Prop), 0 ≤ c → c + r = 8 → (∀ q, q ≠ 103 → q ≠ 145 → m1 q = m q) → (∀ j, j ≠ 61 → m1 103 j = m 103 j) → mV (pO (m 144)) (fun x => (rC (m 104) x = true ∧ x ≠ a) ∧ x < c) (m1 145) → mC (pO (m 144)) (fun x => (rC (m 104) x = true ∧ x ≠ a) ∧ x < c) (m1 145) X → n = mN (m1 145) → aX11_greatest_25 (d + 9) a n c m1 Q := by
    intro r
    induction r with
    | zero =>
      intro n c m1 X hc hr f0 f1 f2 f3 f4
      refine gX11_greatest_25 (d + 9) a n c m1 Q ⟨fun q => by omega, fun _ => ?_⟩
      have hw : ∀ x : Int, 0 ≤ x → x < 8 → ((rC (m 104) x = true ∧ x ≠ a) ↔ ((rC (m 104) x = true ∧ x ≠ a) ∧ x < c)) := fun x h1 h2 => ⟨fun g => ⟨g, by omega⟩, fun g => g.1⟩
      have hn := pcn_nn (fun j => decide (m1 145 j ≠ -1)) 8
      unfold mN at f4
      refine h m1 n f0 f1 ⟨⟨m1 145, mV_E (fun x h1 h2 h3 => (hw x h1 h2).mpr h3) (fun _ _ _ _ _ _ _ h => h) f2, f4.symm⟩, fun g hg => ?_⟩ (by omega)
      rw [f4]
      exact cert_max f2 f3 (mV_E (fun x h1 h2 h3 => (hw x h1 h2).mp h3) (fun _ _ _ _ _ _ _ h => h) hg)
    | succ r ih =>
      intro n c m1 X hc hr f0 f1 f2 f3 f4
      have ec : w32 (c + 1) = c + 1 := w32_id (by omega) (by omega)
      have hc8 : 0 ≤ c ∧ c < 8 := by omega
      have u0 : ∀ q, q ≠ 103 → jUp m1 103 61 0 q = m1 q := fun q hq => up_ne hq
      have u1 : ∀ j, j ≠ 61 → jUp m1 103 61 0 103 j = m 103 j := fun j hj => by rw [up_oth hj]; exact f1 j hj
      have u146 := u0 145 (by omega)
      have skip : ∀ m2 : jM, (∀ q, q ≠ 103 → m2 q = m1 q) → (∀ j, j ≠ 61 → m2 103 j = m 103 j) → ¬ (rC (m 104) c = true ∧ c ≠ a) → aX11_greatest_25 (d + 9) a n (w32 (c + 1)) m2 Q := by
        intro m2 g0 g1 hn
        have g146 := g0 145 (by omega)
        have hw : ∀ x : Int, 0 ≤ x → x < 8 → (((rC (m 104) x = true ∧ x ≠ a) ∧ x < c + 1) ↔ ((rC (m 104) x = true ∧ x ≠ a) ∧ x < c)) := fun x h1 h2 => ⟨fun g => ⟨g.1, by
          have : x ≠ c := by rintro rfl; exact hn g.1
          omega⟩, fun g => ⟨g.1, by omega⟩⟩
        rw [ec]
        refine ih n (c + 1) m2 X (by omega) (by omega) (fun q h1 h2 => by rw [g0 q h1]; exact f0 q h1 h2) g1 (by rw [g146]; exact mV_E (fun x h1 h2 h3 => (hw x h1 h2).mpr h3) (fun _ _ _ _ _ _ _ h => h) f2) ?_ (by rw [g146]; exact f4)
        rw [g146]
        exact ⟨fun x h1 h2 h3 => f3.1 x h1 h2 ((hw x h1 h2).mp h3), f3.2⟩
      refine gX11_greatest_25 (d + 9) a n c m1 Q ⟨fun _ => ⟨fun q => skip _ u0 u1 (fun g => g.2 q), fun q => jK_deep (show d + 1 ≤ d + 9 by omega) (s_isCase hc8 ⟨fun q2 => ?_, fun q2 => ?_⟩)⟩, fun q => by omega⟩
      · rw [bI_0, u0 104 (by omega), f0 104 (by omega) (by omega)] at q2
        exact skip _ u0 u1 (fun g => q2 g.1)
      · rw [bI_0, u0 104 (by omega), f0 104 (by omega) (by omega), Classical.not_not] at q2
        have e61 : jUp m1 103 61 0 103 61 = 0 := up_same
        have k145 : jUp m1 103 61 0 144 = m 144 := by rw [u0 144 (by omega)]; exact f0 144 (by omega) (by omega)
        have hun : ¬ mD (m1 145) c := by
          rintro ⟨j, h1, h2, h3⟩
          rcases f2.1 j h1 h2 with g | ⟨_, _, g, _⟩
          · omega
          · have := g.2; omega
        have hw : ∀ x : Int, 0 ≤ x → x < 8 → (((rC (m 104) x = true ∧ x ≠ a) ∧ x < c + 1) ↔ (((rC (m 104) x = true ∧ x ≠ a) ∧ x < c) ∨ x = c)) := fun x h1 h2 => by
          constructor
          · intro g
            by_cases hx : x = c
            · exact Or.inr hx
            · exact Or.inl ⟨g.1, by omega⟩
          · rintro (g | g)
            · exact ⟨g.1, by omega⟩
            · rw [g]; exact ⟨⟨q2, q⟩, by omega⟩
        have hnr := pcn_nn (fun j => decide (m1 145 j ≠ -1)) 8
        have hn8 : 0 ≤ n ∧ n ≤ 8 := by rw [f4]; exact hnr
        have en : w32 (n + 1) = n + 1 := w32_id (by omega) (by omega)
        refine s_finds d 8 (by rw [e61]; exact mk_0) (by rw [e61, pc8_0]; omega) hc8 (fun j h1 h2 => by rw [u146]; exact (f2.1 j h1 h2).imp id (fun g => ⟨g.1, g.2.1⟩)) (fun m' p p1 p2 p3 p4 p5 p6 => ⟨fun g => by omega, fun _ => ?_⟩) (fun m' p1 p2 p3 p4 p5 p6 => ⟨fun _ => ?_, fun g => by omega⟩)
        · rw [k145, u146] at p1
          rw [u146] at p6
          have haug := flp_aug f2 f3 hc8 hun p1 p2
          have hN := mAug_N f2 hc8 hun haug
          have e : m' 145 = flp (m1 145) c p := funext p6
          have hC2 := mAug_C f3 haug
          rw [ec, en]
          refine ih (n + 1) (c + 1) m' X (by omega) (by omega) (fun q h1 h2 => by rw [p4 q h1 h2, u0 q h1]; exact f0 q h1 h2) (fun j hj => by rw [p5 j hj]; exact u1 j hj) (by rw [e]; exact mV_E (fun x h1 h2 h3 => (hw x h1 h2).mpr h3) (fun _ _ _ _ _ _ _ h => h) haug.1) ?_ (by rw [e, hN, f4])
          rw [e]
          exact ⟨fun x h1 h2 h3 => hC2.1 x h1 h2 ((hw x h1 h2).mp h3), hC2.2⟩
        · rw [k145] at p5 p6
          rw [u146, e61] at p6
          have e : m' 145 = m1 145 := by rw [p1 145 (by omega)]; exact u146
          have hcl : mCl (pO (m 144)) (m1 145) (fun x => x = c ∨ ∃ j : Int, 0 ≤ j ∧ j < 8 ∧ bt (m' 103 61) j = true ∧ m1 145 j = x) := by
            intro x j hx h1 h2 h3
            have hs : bt (m' 103 61) j = true := by
              rcases hx with hx | ⟨i, i1, i2, i3, i4⟩
              · rw [hx] at h3; exact p5 j h1 h2 h3
              · rw [← i4] at h3
                exact (p6 i i1 i2 i3 (bt_0 i)).2 j h1 h2 h3
            exact ⟨(p6 j h1 h2 hs (bt_0 j)).1, Or.inr ⟨j, h1, h2, hs, rfl⟩⟩
          have hC2 := mFail_C f3 (Or.inl rfl) hcl
          rw [ec]
          refine ih n (c + 1) m' (fun x => X x ∨ (x = c ∨ ∃ j : Int, 0 ≤ j ∧ j < 8 ∧ bt (m' 103 61) j = true ∧ m1 145 j = x)) (by omega) (by omega) (fun q h1 h2 => by rw [p1 q h1, u0 q h1]; exact f0 q h1 h2) (fun j hj => by rw [p2 j hj]; exact u1 j hj) (by rw [e]; exact mV_E (fun x h1 h2 h3 => ⟨h3.1, by have := h3.2; omega⟩) (fun _ _ _ _ _ _ _ h => h) f2) ?_ (by rw [e]; exact f4)
          rw [e]
          exact ⟨fun x h1 h2 h3 => hC2.1 x h1 h2 ((hw x h1 h2).mp h3), hC2.2⟩
  have L2 : ∀ (r : Nat) (j : Int) (m1 : jM), 0 ≤ j → j + r = 8 → (∀ q, q ≠ 103 → q ≠ 145 → m1 q = m q) → (∀ j, j ≠ 61 → m1 103 j = m 103 j) → (∀ x : Int, 0 ≤ x → x < j → m1 145 x = -1) → aX11_greatest_2 (d + 9) a j m1 Q := by
    intro r
    induction r with
    | zero =>
      intro j m1 hj hr f0 f1 f2
      have hm : ∀ x : Int, 0 ≤ x → x < 8 → m1 145 x = -1 := fun x h1 h2 => f2 x h1 (by omega)
      refine gX11_greatest_2 (d + 9) a j m1 Q ⟨fun q => by omega, fun _ => L25 8 0 0 m1 (fun _ => False) (by omega) (by omega) f0 f1 ⟨fun x h1 h2 => Or.inl (hm x h1 h2), fun x y h1 h2 _ _ _ h5 => absurd (hm x h1 h2) h5⟩ ⟨fun x h1 h2 h3 => by have := h3.2; omega, fun _ _ hx => hx.elim⟩ ?_⟩
      unfold mN
      rw [pcn_ext (g := fun _ => false) (fun x h1 h2 => by rw [hm x h1 h2]; rfl)]
      rfl
    | succ r ih =>
      intro j m1 hj hr f0 f1 f2
      have ej : w32 (j + 1) = j + 1 := w32_id (by omega) (by omega)
      refine gX11_greatest_2 (d + 9) a j m1 Q ⟨fun _ => ⟨by omega, ?_⟩, fun q => by omega⟩
      rw [ej]
      refine ih (j + 1) _ (by omega) (by omega) (fun q h1 h2 => by rw [up_ne h2]; exact f0 q h1 h2) (fun x hx => by rw [up_ne (by omega)]; exact f1 x hx) (fun x h1 h2 => ?_)
      rw [up_eq]
      split
      · rfl
      · exact f2 x h1 (by omega)
  exact gX11_greatest (d + 9) a m Q (L2 8 0 m (by omega) (by omega) (fun _ _ _ => rfl) (fun _ _ => rfl) (fun x h1 h2 => by omega))
theorem s_marking {d : Nat} {m : jM} {Q : Int → jM → Prop} (hN : ∀ c : Int, 0 ≤ c → c < 8 → mk8 (m 144 c))
    (h : ∀ (m' : jM) (n : Int), (∀ q, q ≠ 103 → q ≠ 145 → m' q = m q) → (∀ j, j ≠ 61 → j ≠ 62 → j ≠ 63 → m' 103 j = m 103 j) → mMk (pO (m 144)) (fun c => rC (m 104) c = true) (m' 103 62) (m' 103 63) n → (0 ≤ n ∧ n ≤ 8) → Q n m') : jK (d + 11) zX11_marking [jO 11 103] m Q := by
  have L18 : ∀ (r : Nat) (n c : Int) (m1 : jM), 0 ≤ c → c + r = 8 → (∀ q, q ≠ 103 → q ≠ 145 → m1 q = m q) → (∀ j, j ≠ 61 → j ≠ 62 → j ≠ 63 → m1 103 j = m 103 j) → mMx (pO (m 144)) (fun c => rC (m 104) c = true) n → (0 ≤ n ∧ n ≤ 8) → mk8 (m1 103 62) → mk8 (m1 103 63) →
      (∀ x : Int, 0 ≤ x → x < 8 → (bt (m1 103 62) x = true ↔ x < c ∧ (rC (m 104) x = true ∧ ∃ n', mMx (pO (m 144)) (fun y => rC (m 104) y = true ∧ y ≠ x) n' ∧ n ≤ n'))) →
      (∀ j : Int, 0 ≤ j → j < 8 → (bt (m1 103 63) j = true ↔ ∃ x : Int, 0 ≤ x ∧ x < 8 ∧ bt (m1 103 62) x = true ∧ pO (m 144) j x = true)) → aX11_marking_18 (d + 10) n c m1 Q := by
    intro r
    induction r with
    | zero =>
      intro n c m1 hc hr f0 f1 f2 f3 f4 f5 f6 f7
      refine gX11_marking_18 (d + 10) n c m1 Q ⟨fun q => by omega, fun _ => h m1 n f0 f1 ⟨f2, f4, fun x h1 h2 => ?_, f5, f7⟩ f3⟩
      rw [f6 x h1 h2]
      exact ⟨fun g => g.2, fun g => ⟨by omega, g⟩⟩
    | succ r ih =>
      intro n c m1 hc hr f0 f1 f2 f3 f4 f5 f6 f7
      have ec : w32 (c + 1) = c + 1 := w32_id (by omega) (by omega)
      have hc8 : 0 ≤ c ∧ c < 8 := by omega
      have skip : ∀ m2 : jM, (∀ q, q ≠ 103 → q ≠ 145 → m2 q = m q) → (∀ j, j ≠ 61 → m2 103 j = m1 103 j) → ¬ (rC (m 104) c = true ∧ ∃ n', mMx (pO (m 144)) (fun y => rC (m 104) y = true ∧ y ≠ c) n' ∧ n ≤ n') → aX11_marking_18 (d + 10) n (w32 (c + 1)) m2 Q := by
        intro m2 g0 g1 hn
        rw [ec]
        refine ih n (c + 1) m2 (by omega) (by omega) g0 (fun j j1 j2 j3 => by rw [g1 j j1]; exact f1 j j1 j2 j3) f2 f3 (by rw [g1 62 (by omega)]; exact f4) (by rw [g1 63 (by omega)]; exact f5) (fun x h1 h2 => ?_) (by rw [g1 62 (by omega), g1 63 (by omega)]; exact f7)
        rw [g1 62 (by omega), f6 x h1 h2]
        constructor
        · intro g; exact ⟨by omega, g.2⟩
        · intro g
          refine ⟨?_, g.2⟩
          have : x ≠ c := by rintro rfl; exact hn g.2
          omega
      refine gX11_marking_18 (d + 10) n c m1 Q ⟨fun _ => jK_deep (show d + 1 ≤ d + 10 by omega) (s_isCase hc8 ⟨fun q => ?_, fun q => s_greatest (fun m2 n2 g0 g1 g2 g3 => ⟨fun q2 => ?_, fun q2 => ⟨hc8, ?_⟩⟩)⟩), fun q => by omega⟩
      · rw [bI_0, f0 104 (by omega) (by omega)] at q
        exact skip m1 f0 (fun _ _ => rfl) (fun g => q g.1)
      · rw [bI_0, f0 104 (by omega) (by omega), Classical.not_not] at q
        rw [f0 144 (by omega) (by omega), f0 104 (by omega) (by omega)] at g2
        refine skip m2 (fun q h1 h2 => by rw [g0 q h1 h2]; exact f0 q h1 h2) g1 ?_
        rintro ⟨_, n', h1, h2⟩
        have := mMx_u h1 g2
        omega
      · rw [bI_0, f0 104 (by omega) (by omega), Classical.not_not] at q
        rw [f0 144 (by omega) (by omega), f0 104 (by omega) (by omega)] at g2
        have k145 : m2 144 = m 144 := by rw [g0 144 (by omega) (by omega)]; exact f0 144 (by omega) (by omega)
        rw [up_ne (show ¬ (144 : Int) = 103 by omega), k145, up_oth (show ¬ (63 : Int) = 62 by omega), g1 62 (by omega), g1 63 (by omega), ec]
        have a62 : ∀ v w, jUp (jUp m2 103 62 v) 103 63 w 103 62 = v := fun v w => by rw [up_oth (by omega), up_same]
        have a63 : ∀ v w, jUp (jUp m2 103 62 v) 103 63 w 103 63 = w := fun v w => up_same
        refine ih n (c + 1) _ (by omega) (by omega) (fun q h1 h2 => by rw [up_ne h1, up_ne h1, g0 q h1 h2]; exact f0 q h1 h2) (fun j j1 j2 j3 => by rw [up_oth j3, up_oth j2, g1 j j1]; exact f1 j j1 j2 j3) f2 f3 (by rw [a62]; exact mk_or1 f4 hc8) (by rw [a63]; exact mk_or f5 (hN c hc8.1 hc8.2)) (fun x h1 h2 => ?_) (fun j h1 h2 => ?_)
        · rw [a62, bt_or1 hc8 ⟨h1, h2⟩, f6 x h1 h2]
          constructor
          · rintro (g | g)
            · exact ⟨by omega, g.2⟩
            · rw [g]; exact ⟨by omega, q, n2, g2, by omega⟩
          · intro g
            by_cases hx : x = c
            · exact Or.inr hx
            · exact Or.inl ⟨by omega, g.2⟩
        · rw [a62, a63, bt_or, Bool.or_eq_true, f7 j h1 h2]
          constructor
          · rintro (⟨x, x1, x2, x3, x4⟩ | g)
            · exact ⟨x, x1, x2, (bt_or1 hc8 ⟨x1, x2⟩).mpr (Or.inl x3), x4⟩
            · exact ⟨c, hc8.1, hc8.2, (bt_or1 hc8 hc8).mpr (Or.inr rfl), g⟩
          · rintro ⟨x, x1, x2, x3, x4⟩
            rcases (bt_or1 hc8 ⟨x1, x2⟩).mp x3 with g | g
            · exact Or.inl ⟨x, x1, x2, g, x4⟩
            · rw [g] at x4; exact Or.inr x4
  refine gX11_marking (d + 10) m Q (s_greatest (fun m1 n g0 g1 g2 g3 => ?_))
  refine L18 8 n 0 _ (by omega) (by omega) (fun q h1 h2 => by rw [up_ne h1, up_ne h1]; exact g0 q h1 h2) (fun j j1 j2 j3 => by rw [up_oth j3, up_oth j2]; exact g1 j j1) (mMx_E (fun x h1 h2 => ⟨fun g => g.1, fun g => ⟨g, by omega⟩⟩) (fun _ _ _ _ _ _ _ => rfl) g2) g3 (by rw [up_oth (by omega), up_same]; exact mk_0) (by rw [up_same]; exact mk_0) (fun x h1 h2 => ?_) (fun j h1 h2 => ?_)
  · rw [up_oth (by omega), up_same, bt_0]
    exact ⟨(fun g => by cases g), (fun g => by omega)⟩
  · rw [up_same, bt_0, up_oth (by omega), up_same]
    exact ⟨fun g => (by cases g), fun ⟨x, _, _, g, _⟩ => by rw [bt_0] at g; cases g⟩
