/-! the parser gives a tree -/
theorem pP_t (B : Int → Int) (f : Nat) : ∀ (g a lo : Int) (s : pS), ((g ≠ 2 ∧ g ≠ 4 ∧ lo = s.2.1) ∨ ((g = 2 ∨ g = 4) ∧ uX s.2.2.2 lo s.2.1 a)) → pT lo (pP B f g a s) := by
  induction f with
  | zero => intro g a lo s _ h; exact absurd h (by show ¬ (0 : Int) = 2; omega)
  | succ f ih =>
    intro g a lo s hp
    have c0 : ∀ g' s', g' ≠ 2 → g' ≠ 4 → pT s'.2.1 (pP B f g' 0 s') := fun g' s' h1 h2 => ih g' 0 s'.2.1 s' (Or.inl ⟨h1, h2, rfl⟩)
    have hh : ∀ g' a' s', pHr s'.2.1 s'.2.2.2 (pP B f g' a' s') := fun g' a' s' => pP_h B _ _ f g' a' s' ⟨Int.le_refl _, fun _ _ _ => rfl⟩
    have two : ∀ (op g1 g2 : Int), 3 ≤ op ∧ op ≤ 5 → g1 ≠ 2 → g1 ≠ 4 → (g2 = 2 ∨ g2 = 4) → uX s.2.2.2 lo s.2.1 a → pT lo (pNew B s op 0 (fun k s => pB (pP B f g1 0 (pU s 4 k a)) (fun r s => pP B f g2 k (pU s 5 k r)))) := by
      intro op g1 g2 hop h1 h2 h3 hu
      refine pT_N (pT_B (fun o => ih g2 _ _ _ (Or.inr ⟨h3, ?_⟩)))
      exact uX_two hop hu (c0 g1 _ h1 h2 o) (fun f j hj => (hh g1 0 _ o).2 f j hj)
    show pT lo (if g = 0 then pEx B (pP B f 0 0) (pP B f 1 0) s
      else if g = 1 then pB (pP B f 3 0 s) (pP B f 2)
      else if g = 2 then pRe B 0 (pP B f 3 0) (pP B f 2) a s
      else if g = 3 then pB (pP B f 5 0 s) (pP B f 4)
      else if g = 4 then pRe B 1 (pP B f 5 0) (pP B f 4) a s
      else pFa B (pP B f 0 0) (pP B f 5 0) s)
    split
    · have e : lo = s.2.1 := by omega
      subst e
      refine pT_B (fun o1 => ?_)
      have u1 := c0 1 s (by omega) (by omega) o1
      split
      · refine pT_N (pT_B (fun o3 => pT_T (pT_B (fun o6 => pT_T (pT_B (fun o10 => fun _ => ?_))))))
        have u3 := c0 1 _ (by omega) (by omega) o3
        have u6 := c0 0 _ (by omega) (by omega) o6
        have u10 := c0 0 _ (by omega) (by omega) o10
        exact uX_if u1 u3 (fun f j hj => (hh 1 0 _ o3).2 f j hj) u6 (fun f j hj => (hh 0 0 _ o6).2 f j hj) u10 (fun f j hj => (hh 0 0 _ o10).2 f j hj)
      · exact fun _ => u1
    split
    · have e : lo = s.2.1 := by omega
      subst e
      exact pT_B (fun o1 => ih 2 _ _ _ (Or.inr ⟨Or.inl rfl, c0 3 s (by omega) (by omega) o1⟩))
    split
    · have hu : uX s.2.2.2 lo s.2.1 a := by
        rcases hp with w | w
        · exfalso; omega
        · exact w.2
      unfold pRe
      rw [if_pos rfl]
      split
      · exact two 3 3 2 (by omega) (by omega) (by omega) (Or.inl rfl) hu
      split
      · exact two 4 3 2 (by omega) (by omega) (by omega) (Or.inl rfl) hu
      · exact fun _ => hu
    split
    · have e : lo = s.2.1 := by omega
      subst e
      exact pT_B (fun o1 => ih 4 _ _ _ (Or.inr ⟨Or.inr rfl, c0 5 s (by omega) (by omega) o1⟩))
    split
    · have hu : uX s.2.2.2 lo s.2.1 a := by
        rcases hp with w | w
        · exfalso; omega
        · exact w.2
      unfold pRe
      rw [if_neg (show ¬ (1 : Int) = 0 by omega)]
      split
      · exact two 5 5 4 (by omega) (by omega) (by omega) (Or.inr rfl) hu
      · exact fun _ => hu
    have e : lo = s.2.1 := by omega
    subst e
    unfold pFa
    split
    · exact pT_N (fun _ => uX_leaf (by omega))
    split
    · exact pT_N (fun _ => uX_leaf (by omega))
    split
    · exact pT_N (fun _ => uX_leaf (by omega))
    split
    · rename_i e4
      refine pT_N ?_
      unfold pTwo
      split
      · refine pT_O (pT_B (fun o3 => pT_T (pT_B (fun o6 => pT_T (fun _ => ?_)))))
        have u3 := c0 0 _ (by omega) (by omega) o3
        have u6 := c0 0 _ (by omega) (by omega) o6
        exact uX_fun (by have := (tk_r B s.1).2.2.2 e4; omega) u3 (fun f j hj => (hh 0 0 _ o3).2 f j hj) u6 (fun f j hj => (hh 0 0 _ o6).2 f j hj)
      · exact pT_F
    split
    · refine pT_N (pT_B (fun o3 => fun _ => ?_))
      exact uX_one (Or.inl rfl) (c0 5 _ (by omega) (by omega) o3) (fun f j hj => (hh 5 0 _ o3).2 f j hj)
    split
    · exact pT_O (pT_B (fun o3 => pT_T (fun _ => c0 0 _ (by omega) (by omega) o3)))
    split
    · split
      · refine pT_O (pT_B (fun o3 => pT_T (fun _ => ?_)))
        exact uX_one (Or.inr rfl) (c0 0 _ (by omega) (by omega) o3) (fun f j hj => (hh 0 0 _ o3).2 f j hj)
      · exact pT_F
    · exact pT_F
