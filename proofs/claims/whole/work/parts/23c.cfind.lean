/-! the class's NextOnes: find, placeOf -/
theorem s_follow {d : Nat} {x : Int} {m m1 : jM} {Q : Int → jM → Prop} (hP : plL 54 m 8) (hf : ∀ q, q < 82 → m1 q = m q) (hst : ∀ v, mk8 v → sub8 v (m 54 3) → nOk m m1 v) (h0 : 0 ≤ x ∧ x < 12) (hx : x < (nLV m 0).length)
    (hfill : ∀ c : Int, 0 ≤ c → c < 8 → m1 88 (8 * x + c) = -1)
    (h : ∀ m2 : jM, (∀ q, q ≠ 88 → m2 q = m1 q) → (∀ y : Int, (y < 8 * x ∨ 8 * x + 8 ≤ y) → m2 88 y = m1 88 y) → (∀ c : Int, 0 ≤ c → c < 8 → m2 88 (8 * x + c) = (List.replicate (8 - pLv 54 m 0) (-1) ++ gtD (nLV m 0) x).getD c.toNat (-1)) → Q 0 m2) : jK (d + 1) zX3_follow [jO 3 81, jO 4 54, jI x] m1 Q := by
  generalize hF : List.replicate (8 - pLv 54 m 0) (-1) ++ gtD (nLV m 0) x = F at *
  have hm1 : 0 ≤ m 54 1 ∧ m 54 1 ≤ 8 := by rw [hP.1]; exact pcn_nn _ _
  have loop : ∀ (r : Nat) (v w t : Int) (m2 : jM), t + r = m 54 1 → 0 ≤ t → mk8 v → sub8 v (m 54 3) → pc8 v = t → 0 ≤ w → w < (nLV m v).length → (∀ q, q ≠ 88 → m2 q = m1 q) → (∀ y : Int, (y < 8 * x ∨ 8 * x + 8 ≤ y) → m2 88 y = m1 88 y) → pLv 54 m t ≤ 8 →
      (∀ c : Int, 0 ≤ c → c < 8 - (pLv 54 m t : Nat) → m2 88 (8 * x + c) = F.getD c.toNat (-1)) → (∀ c : Int, 8 - ((pLv 54 m t : Nat) : Int) ≤ c → 0 ≤ c → c < 8 → m2 88 (8 * x + c) = -1) → F.drop (8 - pLv 54 m t) = gtD (nLV m v) w → aX3_follow_8 d x v w t m2 Q := by
    intro r
    induction r with
    | zero =>
      intro v w t m2 htr ht0 hv hsub hpc hw0 hw f0 f1 hlv hlow hhigh hdrop
      have k54 : m2 54 = m 54 := by rw [f0 54 (by omega), hf 54 (by omega)]
      refine gX3_follow_8 d x v w t m2 Q ⟨fun q => by rw [k54] at q; omega, fun _ => ?_⟩
      have e0 : pLv 54 m t = 0 := by unfold pLv; rw [if_neg (by omega)]
      rw [e0] at hlow
      exact h m2 f0 f1 (fun c g1 g2 => hlow c g1 (by omega))
    | succ r ih =>
      intro v w t m2 htr ht0 hv hsub hpc hw0 hw f0 f1 hlv hlow hhigh hdrop
      have k54 : m2 54 = m 54 := by rw [f0 54 (by omega), hf 54 (by omega)]
      have k55 : m2 55 = m 55 := by rw [f0 55 (by omega), hf 55 (by omega)]
      have k84 := f0 84 (by omega)
      have k85 := f0 85 (by omega)
      have hv2 : 0 ≤ v ∧ v < 256 := hv
      have htc : t < m 54 1 := by omega
      obtain ⟨b1, b2, b3, b4⟩ := hP.2.2.1 t ht0 htc
      have hc : m (54 + 1) t = m 55 t := rfl
      rw [hc] at b1 b2 b3 b4
      have hok := hst v hv hsub
      have h12 := hok.1.2.2.1
      have hn := (hok.2.2 w hw0 hw).2 (by rw [hpc]; exact htc)
      rw [hpc] at hn
      unfold nSt at hn
      have et : w32 (t + 1) = t + 1 := w32_id (by omega) (by omega)
      have e1 : w32 (w32 (v * 12) + w) = v * 12 + w := by simp (disch := omega) only [w32_id]
      have e2 : w32 (w32 (x * 8) + m 55 t) = 8 * x + m 55 t := by simp (disch := omega) only [w32_id]; omega
      have eLv : pLv 54 m t = (7 - m 55 t).toNat + 1 := by unfold pLv; rw [if_pos htc]; omega
      refine gX3_follow_8 d x v w t m2 Q ⟨fun _ => ⟨by omega, by omega, by rw [k55, e2]; omega, by omega, by omega, ?_⟩, fun q => by rw [k54] at q; omega⟩
      rw [k55, e1, e2, et]
      rw [up_ne (show ¬ (84 : Int) = 88 by omega), up_ne (show ¬ (85 : Int) = 88 by omega), k84, k85]
      generalize hj : m1 84 (v * 12 + w) = j at *
      generalize hy : m1 85 (v * 12 + w) = y at *
      obtain ⟨n1, n2, n3, n4, n5⟩ := hn
      rw [hpc] at n5
      have hopen := plL_open hP ht0 htc n1 n3
      obtain ⟨e, ee1, ee2⟩ := pLv_sk hP ht0 htc
      rw [hc] at ee1
      have hc8 : m 55 t < 8 := b2
      rw [eLv] at hdrop hlow hhigh hlv
      rw [n5, show 8 - ((7 - m 55 t).toNat + 1) = (m 55 t).toNat by omega, show (7 - m 55 t).toNat - pLv 54 m (t + 1) = e by omega] at hdrop
      obtain ⟨d1, d2⟩ := drop_cons hdrop (-1)
      refine ih (iOr v (iShl 1 j)) y (t + 1) _ (by omega) (by omega) (mk_or1 hv n1) (sub_or1 n1 hsub hopen) (by rw [pc8_1 n1 n2, hpc]) n4.1 n4.2 (fun q g => by rw [up_ne g]; exact f0 q g) (fun z hz => by rw [up_oth (by omega)]; exact f1 z hz) (by omega) (fun c g1 g2 => ?_) (fun c g1 g2 g3 => ?_) ?_
      · rw [up_eq]
        by_cases hcc : c = m 55 t
        · rw [if_pos (by omega), hcc, d1]
        · rw [if_neg (by omega)]
          by_cases hlt : c < m 55 t
          · exact hlow c g1 (by omega)
          · rw [hhigh c (by omega) g1 (by omega)]
            have h9 : (F.drop ((m 55 t).toNat + 1)).getD (c - m 55 t - 1).toNat (-1) = -1 := by
              rw [d2, List.getD_eq_getElem?_getD, List.getElem?_append, List.length_replicate, if_pos (by omega), List.getElem?_replicate, if_pos (by omega)]
              rfl
            rw [List.getD_eq_getElem?_getD, List.getElem?_drop, show (m 55 t).toNat + 1 + (c - m 55 t - 1).toNat = c.toNat by omega, ← List.getD_eq_getElem?_getD] at h9
            exact h9.symm
      · rw [up_oth (by omega)]; exact hhigh c (by omega) g2 g3
      · have h9 : (F.drop ((m 55 t).toNat + 1)).drop e = gtD (nLV m (iOr v (iShl 1 j))) y := by
          rw [d2, List.drop_append, List.length_replicate, List.drop_eq_nil_of_le (by simp), Nat.sub_self, List.drop_zero, List.nil_append]
        rw [List.drop_drop] at h9
        rw [show 8 - pLv 54 m (t + 1) = (m 55 t).toNat + 1 + e by omega]
        exact h9
  obtain ⟨e, ee1, ee2⟩ := pLv_sk0 hP
  refine gX3_follow d x m1 Q (loop (m 54 1).toNat 0 x 0 m1 (by omega) (by omega) mk_0 (fun j _ _ g => by rw [bt_0] at g; cases g) pc8_0 h0.1 hx (fun _ _ => rfl) (fun _ _ => rfl) (by omega) (fun c g1 g2 => ?_) (fun c _ g1 g2 => hfill c g1 g2) ?_)
  · rw [hfill c g1 (by omega), ← hF, List.getD_eq_getElem?_getD, List.getElem?_append, List.length_replicate, if_pos (by omega), List.getElem?_replicate, if_pos (by omega)]
    rfl
  · rw [← hF, List.drop_append, List.length_replicate, List.drop_eq_nil_of_le (by simp), Nat.sub_self, List.drop_zero, List.nil_append]
theorem s_nfind {d : Nat} {m : jM} {Q : Int → jM → Prop} (hW : pW 0 54 m) (hr : ∀ c : Int, 0 ≤ c → c < 8 → mk8 (m 57 c)) (hB : dpB (pO (m 57)) (rB (m 56)))
    (h : ∀ (m2 : jM) (T : List (List Int)), (∀ q, (q < 82 ∨ 88 < q) → m2 q = m q) → Top (tot (rB (m 56)) 8) (mts (pO (m 57)) (bt (m 54 0)) 8 0) T → m2 82 0 = T.length → (∀ i : Int, 0 ≤ i → i < T.length → m2 83 i = tot (rB (m 56)) 8 (gtD T i) ∧ ∀ c : Int, 0 ≤ c → c < 8 → m2 88 (8 * i + c) = (gtD T i).getD c.toNat (-1)) → Q 0 m2) : jK (d + 3) zX3_find [jO 3 81, jO 4 54] m Q := by
  obtain ⟨hP, hE⟩ := hW
  have hm1 : 0 ≤ m 54 1 ∧ m 54 1 ≤ 8 := by rw [hP.1]; exact pcn_nn _ _
  have hS0 : sub8 0 (m 54 3) := fun j _ _ g => by rw [bt_0] at g; cases g
  obtain ⟨e, ee1, ee2⟩ := pLv_sk0 hP
  -- the ways are followed
  have L103 : ∀ (r : Nat) (x : Int) (m1 : jM), x + r = (nLV m 0).length → 0 ≤ x → (∀ q, (q < 82 ∨ 88 < q) → m1 q = m q) → (∀ v, mk8 v → sub8 v (m 54 3) → nOk m m1 v) → (∀ y : Int, 8 * x ≤ y → y < 96 → m1 88 y = -1) →
      (∀ i : Int, 0 ≤ i → i < x → ∀ c : Int, 0 ≤ c → c < 8 → m1 88 (8 * i + c) = (List.replicate (8 - pLv 54 m 0) (-1) ++ gtD (nLV m 0) i).getD c.toNat (-1)) → aX3_find_103 (d + 2) x m1 Q := by
    intro r
    induction r with
    | zero =>
      intro x m1 hxr hx0 f0 f1 f2 f3
      have hok := f1 0 mk_0 hS0
      refine gX3_find_103 (d + 2) x m1 Q ⟨by omega, fun q => by rw [hok.2.1] at q; omega, fun _ => ?_⟩
      have hT := hok.1
      have elv : nLv m 0 = pLv 54 m 0 := by unfold nLv; rw [pc8_0]
      rw [elv] at hT
      have hT8 : Top (tot (rB (m 56)) 8) (mts (pO (m 57)) (bt (m 54 0)) 8 0) ((nLV m 0).map (fun l => List.replicate e (-1) ++ l)) := by
        have em := mts_rep (o := pO (m 57)) (C := bt (m 54 0)) (s := 0) _ _ ee2
        rw [← ee1] at em
        rw [em]
        refine top_map (v := 0) hT (fun l _ => ?_) (fun x y hxy => lxl_rep hxy)
        have := tot_rep (rB (m 56)) (pLv 54 m 0) e l
        rw [← ee1] at this
        rw [this, Int.zero_add]
      have hg : ∀ i : Int, 0 ≤ i → i < (nLV m 0).length → gtD ((nLV m 0).map (fun l => List.replicate e (-1) ++ l)) i = List.replicate e (-1) ++ gtD (nLV m 0) i := by
        intro i g1 g2
        unfold gtD
        rw [List.getD_eq_getElem?_getD, List.getElem?_map, List.getD_eq_getElem?_getD, List.getElem?_eq_getElem (show i.toNat < _ by omega)]
        rfl
      refine h m1 _ f0 hT8 (by rw [hok.2.1, List.length_map]) (fun i g1 g2 => ?_)
      rw [List.length_map] at g2
      rw [hg i g1 g2]
      refine ⟨?_, fun c g3 g4 => ?_⟩
      · have := (hok.2.2 i g1 g2).1
        rw [elv, Int.zero_mul, Int.zero_add] at this
        rw [this]
        have h3 := tot_rep (rB (m 56)) (pLv 54 m 0) e (gtD (nLV m 0) i)
        rw [← ee1] at h3
        exact h3.symm
      · have := f3 i g1 (by omega) c g3 g4
        rw [show 8 - pLv 54 m 0 = e by omega] at this
        exact this
    | succ r ih =>
      intro x m1 hxr hx0 f0 f1 f2 f3
      have hok := f1 0 mk_0 hS0
      have h12 := hok.1.2.2.1
      have ex : w32 (x + 1) = x + 1 := w32_id (by omega) (by omega)
      refine gX3_find_103 (d + 2) x m1 Q ⟨by omega, fun _ => jK_deep (show d + 1 ≤ d + 2 by omega) (s_follow hP (fun q g => f0 q (Or.inl g)) f1 ⟨hx0, by omega⟩ (by omega) (fun c g1 g2 => f2 _ (by omega) (by omega)) (fun m2 g1 g2 g3 => ?_)), fun q => by rw [hok.2.1] at q; omega⟩
      rw [ex]
      refine ih (x + 1) m2 (by omega) (by omega) (fun q hq => by rw [g1 q (by omega)]; exact f0 q hq) (fun v k1 k2 => nOk_frame (f1 v k1 k2) (by rw [g1 82 (by omega)]) (fun i _ _ => by rw [g1 83 (by omega), g1 84 (by omega), g1 85 (by omega)]; exact ⟨rfl, rfl, rfl⟩)) (fun y k1 k2 => by rw [g2 y (by omega)]; exact f2 y (by omega) k2) (fun i k1 k2 c k3 k4 => ?_)
      by_cases hix : i = x
      · rw [hix]; exact g3 c k3 k4
      · rw [g2 _ (by omega)]; exact f3 i k1 (by omega) c k3 k4
  have loop : ∀ (r : Nat) (x : Int) (m1 : jM), x + 1 = r → x ≤ 255 → (∀ q, (q < 82 ∨ 88 < q) → m1 q = m q) → (∀ v, mk8 v → x < v → sub8 v (m 54 3) → nOk m m1 v) → aX3_find_4 (d + 2) x m1 Q := by
    intro r
    induction r with
    | zero =>
      intro x m1 hx hx2 f0 f1
      refine gX3_find_4 (d + 2) x m1 Q ⟨fun _ => jK_deep (show d + 1 ≤ d + 2 by omega) (s_fillI (by omega) ?_), fun q => by omega⟩
      have hlt : ∀ q, q ≠ 88 → jFil m1 88 96 (-1) q = m1 q := by
        intro q hq; funext j; unfold jFil; rw [if_neg (by rintro ⟨g, _⟩; exact hq g)]
      refine L103 (nLV m 0).length 0 _ (by omega) (by omega) (fun q hq => by rw [hlt q (by omega)]; exact f0 q hq) (fun v k1 k2 => nOk_frame (f1 v k1 (by unfold mk8 at k1; omega) k2) (by rw [hlt 82 (by omega)]) (fun i _ _ => by rw [hlt 83 (by omega), hlt 84 (by omega), hlt 85 (by omega)]; exact ⟨rfl, rfl, rfl⟩)) (fun y k1 k2 => ?_) (fun i k1 k2 => by omega)
      unfold jFil
      rw [if_pos (by omega)]
    | succ r ih =>
      intro x m1 hx hx2 f0 f1
      have hx8 : mk8 x := by unfold mk8; omega
      have e1 : w32 (x + (-1)) = x - 1 := by rw [w32_id (by omega) (by omega)]; omega
      have e12 : w32 (x * 12) = x * 12 := w32_id (by omega) (by omega)
      have k54 := f0 54 (by omega)
      have k55 := f0 55 (by omega)
      have k58 := f0 58 (by omega)
      have hpr := pc8_r x
      -- other sets keep theirs
      have keep : ∀ (m2 : jM), (∀ v : Int, v ≠ x → m2 82 v = m1 82 v) → (∀ y : Int, (y < x * 12 ∨ x * 12 + 12 ≤ y) → m2 83 y = m1 83 y ∧ m2 84 y = m1 84 y ∧ m2 85 y = m1 85 y) → ∀ v, mk8 v → x < v → sub8 v (m 54 3) → nOk m m2 v := by
        intro m2 g1 g2 v k1 k2 k3
        exact nOk_frame (f1 v k1 k2 k3) (g1 v (by omega)) (fun i h1 h2 => g2 _ (by omega))
      have next : ∀ m2 : jM, (∀ q, (q < 82 ∨ 88 < q) → m2 q = m q) → (∀ v, mk8 v → x < v → sub8 v (m 54 3) → nOk m m2 v) → (sub8 x (m 54 3) → nOk m m2 x) → aX3_find_4 (d + 2) (w32 (x + (-1))) m2 Q := by
        intro m2 g1 g2 g3
        rw [e1]
        refine ih (x - 1) m2 (by omega) (by omega) g1 (fun v k1 k2 k3 => ?_)
        by_cases hvx : v = x
        · rw [hvx] at k3 ⊢; exact g3 k3
        · exact g2 v k1 (by omega) k3
      refine gX3_find_4 (d + 2) x m1 Q ⟨fun q => by omega, fun _ => jK_deep (show d + 1 ≤ d + 2 by omega) (s_canTake ⟨fun q2 => ?_, fun q2 => ?_⟩)⟩
      · rw [bI_0, bs_iff hx8, k54] at q2
        exact next m1 f0 f1 (fun g => absurd g q2)
      · rw [bI_0, Classical.not_not, bs_iff hx8, k54] at q2
        have hsub : sub8 x (m 54 3) := q2
        have hEx := hE x hx8 hsub
        refine jK_deep (show d + 1 ≤ d + 2 by omega) (s_bc hx8 ⟨fun q3 => ⟨by unfold mk8 at hx8; omega, fun q4 => ⟨by unfold mk8 at hx8; omega, ?_⟩, fun q4 => ⟨by rw [k54] at q3; omega, ?_⟩⟩, fun q3 => ⟨by unfold mk8 at hx8; omega, by rw [e12]; unfold mk8 at hx8; omega, ?_⟩⟩)
        · -- none
          rw [k54] at q3
          rw [k58] at q4
          have hlv8 : nLv m x ≤ 8 := by
            obtain ⟨b1, _⟩ := hP.2.2.1 (pc8 x) hpr.1 q3
            unfold nLv pLv; split <;> omega
          have hR := dpt_r (h := 0) (C := bt (m 54 0)) hB (nLv m x) hlv8 x hx8
          have hF : (dpt 0 (pO (m 57)) (rB (m 56)) (bt (m 54 0)) (nLv m x) x).1 = dpF := by
            rw [← toN_no hR, ← q4]; exact hEx.1.symm
          have hnil : mts (pO (m 57)) (bt (m 54 0)) (nLv m x) x = [] := by
            rcases lc_mts (C := bt (m 54 0)) hB (nLv m x) hlv8 x hx8 with ⟨g, _⟩ | g
            · exact g
            · have := g.1; omega
          have hLV : nLV m x = [] := by unfold nLV; rw [hnil]; exact tpo_eq (top_nil _)
          refine next _ (fun q hq => by rw [up_ne (by omega)]; exact f0 q hq) (keep _ (fun v hv => up_oth hv) (fun y _ => by rw [up_ne (by omega), up_ne (by omega), up_ne (by omega)]; exact ⟨rfl, rfl, rfl⟩)) (fun _ => ?_)
          refine ⟨by rw [hLV, hnil]; exact top_nil _, by rw [up_same, hLV]; rfl, fun i g1 g2 => by rw [hLV] at g2; simp at g2; omega⟩
        · -- merged
          rw [k54] at q3
          rw [k55]
          refine s_merge hP hr hB hx8 q3 rfl (fun q hq => f0 q (Or.inl hq)) (fun j g1 g2 g3 g4 => f1 _ (mk_or1 hx8 ⟨g1, g2⟩) (mk_lt hx8 ⟨g1, g2⟩ g3) (sub_or1 ⟨g1, g2⟩ hsub (plL_open hP hpr.1 q3 ⟨g1, g2⟩ g4))) (fun m2 T g1 g1' g2 g3 g4 => ⟨by unfold mk8 at hx8; omega, ?_⟩)
          have hLV : nLV m x = T := tpo_eq g3
          refine next _ (fun q hq => by rw [up_ne (by omega)]; rcases hq with hq | hq; rw [g1 q (by omega)]; exact f0 q (Or.inl hq); rw [g1' q (by omega)]; exact f0 q (Or.inr hq)) (keep _ (fun v hv => by rw [up_oth hv, g1 82 (by omega)]) (fun y hy => by rw [up_ne (by omega), up_ne (by omega), up_ne (by omega)]; exact g2 y hy)) (fun _ => ?_)
          refine ⟨by rw [hLV]; exact g3, by rw [up_same, hLV], fun i k1 k2 => ?_⟩
          rw [hLV] at k2 ⊢
          unfold nSt
          rw [up_ne (show ¬ (83 : Int) = 82 by omega), up_ne (show ¬ (84 : Int) = 82 by omega), up_ne (show ¬ (85 : Int) = 82 by omega)]
          exact ⟨(g4 i k1 k2).1, fun _ => (g4 i k1 k2).2⟩
        · -- no case left
          rw [k54] at q3
          have elv : nLv m x = 0 := by unfold nLv pLv; rw [if_neg q3]
          have hLV : nLV m x = [[]] := by
            unfold nLV
            rw [elv]
            refine tpo_eq ⟨List.pairwise_singleton _ _, fun _ g => g, by simp, fun z hz hn => absurd hz hn⟩
          refine next _ (fun q hq => by rw [up_ne (by omega), up_ne (by omega)]; exact f0 q hq) (keep _ (fun v hv => by rw [up_ne (by omega), up_oth hv]) (fun y hy => ?_)) (fun _ => ?_)
          · rw [up_ne (show ¬ (84 : Int) = 83 by omega), up_ne (show ¬ (85 : Int) = 83 by omega), up_ne (show ¬ (84 : Int) = 82 by omega), up_ne (show ¬ (85 : Int) = 82 by omega), up_oth (by rw [e12]; omega), up_ne (show ¬ (83 : Int) = 82 by omega)]
            exact ⟨rfl, rfl, rfl⟩
          · refine ⟨?_, by rw [up_ne (by omega), up_same, hLV]; rfl, fun i g1 g2 => ?_⟩
            · rw [hLV, elv]
              exact ⟨List.pairwise_singleton _ _, fun _ g => g, by simp, fun z hz hn => absurd hz hn⟩
            · rw [hLV] at g2 ⊢
              have : i = 0 := by simp at g2; omega
              subst this
              refine ⟨?_, fun g => absurd g q3⟩
              rw [e12, Int.add_zero, up_same, elv]
              rfl
  exact gX3_find (d + 2) m Q (loop 256 255 m (by omega) (by omega) (fun _ _ => rfl) (fun v k1 k2 => by unfold mk8 at k1; omega))
