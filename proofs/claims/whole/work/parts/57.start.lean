/-! THE START: what holds when both objects are made -/
def LG : List (Int × Int × Int × Int) := lX11 (lX10 [])
theorem jRfs_l2 : ∀ w ∈ jRfs, w.1 < 12 := by decide +kernel
theorem vz {k : Int} (hk : jKd k = 20 ∨ jKd k = 21) (h : (LG.all (fun w => decide (¬ w.1 = k))) = true) (i : Int) : val LG k i = 0 := by
  rw [val_out (fun w hw => of_decide_eq_true (List.all_eq_true.mp h w hw))]
  unfold jDf
  rw [if_neg]
  intro g
  rcases g with g | g | g
  · omega
  · omega
  · have := jRfs_l2 _ g
    dsimp only at this
    omega
theorem vm3 : ∀ j : Fin 64, val LG 3 (j.val : Int) = -1 := by decide +kernel
theorem vm107 : ∀ j : Fin 64, val LG 106 (j.val : Int) = -1 := by decide +kernel
theorem LG_fin : ∀ q ∈ jFin, (0 ≤ q.1 ∧ q.1 < 160) ∧ val LG q.1 q.2.1 = q.2.2 := by decide +kernel
theorem LG_mut : ∀ q ∈ jMut, (0 ≤ q.1 ∧ q.1 < 160) ∧ (0 ≤ val LG q.1 q.2.1 ∧ val LG q.1 q.2.1 < 160) ∧ jKd (val LG q.1 q.2.1) = q.2.2 := by decide +kernel
theorem start_full {m : jM} {x : Int → Int} {l : Int} (H : mR m 160 l x LG) : jFull m := by
  obtain ⟨a1, a2, a3, a4, v⟩ := H
  refine ⟨a1, fun q hq => ?_, fun q hq => ?_⟩
  · obtain ⟨b1, b2⟩ := LG_fin q hq
    rw [v _ _ b1.1 b1.2]
    exact b2
  · obtain ⟨b1, b2, b3⟩ := LG_mut q hq
    rw [v _ _ b1.1 b1.2]
    exact ⟨b2.1, b2.2, b3⟩
theorem start_one : (val LG 1 0 = 0 ∧ val LG 1 1 = 0) ∧ (val LG 0 2 = 0 ∧ val LG 0 12 = 0 ∧ val LG 0 13 = 0 ∧ val LG 0 14 = 0 ∧ val LG 0 15 = 0) ∧ (val LG 45 1 = 0 ∧ val LG 45 2 = 47) ∧ val LG 75 0 = 0 ∧ (val LG 103 16 = 0 ∧ val LG 103 50 = 0 ∧ val LG 103 68 = 0) := by decide +kernel
theorem start_four : ∀ s : Fin 4, val LG 5 (s.val : Int) = 7 + 4 * (s.val : Int) ∧ val LG 27 (s.val : Int) = 29 + 4 * (s.val : Int) ∧ val LG 94 (s.val : Int) = 95 + 2 * (s.val : Int) ∧ val LG 157 (s.val : Int) = -1 ∧ (val LG (7 + 4 * (s.val : Int)) 0 = 0 ∧ val LG (7 + 4 * (s.val : Int)) 1 = 0) ∧ (val LG (95 + 2 * (s.val : Int)) 0 = -1 ∧ val LG (95 + 2 * (s.val : Int)) 1 = 0) := by decide +kernel
theorem start_inv {m : jM} {x : Int → Int} {l : Int} (H : mR m 160 l x LG) : Inv m := by
  obtain ⟨a1, a2, a3, a4, v⟩ := H
  have v' : ∀ k i w : Int, 0 ≤ k → k < 160 → val LG k i = w → m k i = w := fun k i w h1 h2 h3 => (v k i h1 h2).trans h3
  have z2 := fun i => v' 2 i 0 (by omega) (by omega) (vz (by decide +kernel) (by decide +kernel) i)
  have z4 := fun i => v' 4 i 0 (by omega) (by omega) (vz (by decide +kernel) (by decide +kernel) i)
  have z46 := fun i => v' 46 i 0 (by omega) (by omega) (vz (by decide +kernel) (by decide +kernel) i)
  have z105 := fun i => v' 104 i 0 (by omega) (by omega) (vz (by decide +kernel) (by decide +kernel) i)
  have z106 := fun i => v' 105 i 0 (by omega) (by omega) (vz (by decide +kernel) (by decide +kernel) i)
  have z108 := fun i => v' 107 i 0 (by omega) (by omega) (vz (by decide +kernel) (by decide +kernel) i)
  have z109 := fun i => v' 108 i 0 (by omega) (by omega) (vz (by decide +kernel) (by decide +kernel) i)
  have z111 := fun i => v' 110 i 0 (by omega) (by omega) (vz (by decide +kernel) (by decide +kernel) i)
  have z119 := fun i => v' 118 i 0 (by omega) (by omega) (vz (by decide +kernel) (by decide +kernel) i)
  have z159 := fun i => v' 158 i 0 (by omega) (by omega) (vz (by decide +kernel) (by decide +kernel) i)
  have f64 : ∀ k : Int, 0 ≤ k → k < 160 → (∀ j : Fin 64, val LG k (j.val : Int) = -1) → ∀ i : Int, 0 ≤ i → i < 64 → m k i = -1 := fun k k1 k2 hk i i1 i2 => by
    obtain ⟨n, rfl⟩ : ∃ n : Nat, i = n := ⟨i.toNat, by omega⟩
    exact v' k n (-1) k1 k2 (hk ⟨n, by omega⟩)
  have n3 := f64 3 (by omega) (by omega) vm3
  have n107 := f64 106 (by omega) (by omega) vm107
  obtain ⟨⟨o1, o2⟩, ⟨o3, o4, o5, o6, o7⟩, ⟨o8, o9⟩, o10, o11, o12, o13⟩ := start_one
  have F : ∀ s : Int, 0 ≤ s → s < 4 → m 5 s = 7 + 4 * s ∧ m 27 s = 29 + 4 * s ∧ m 94 s = 95 + 2 * s ∧ m 157 s = -1 ∧ (m (7 + 4 * s) 0 = 0 ∧ m (7 + 4 * s) 1 = 0) ∧ (m (95 + 2 * s) 0 = -1 ∧ m (95 + 2 * s) 1 = 0) := fun s s1 s2 => by
    obtain ⟨n, rfl⟩ : ∃ n : Nat, s = n := ⟨s.toNat, by omega⟩
    obtain ⟨b1, b2, b3, b4, ⟨b5, b6⟩, b7, b8⟩ := start_four ⟨n, by omega⟩
    dsimp only at b1 b2 b3 b4 b5 b6 b7 b8
    exact ⟨v' _ _ _ (by omega) (by omega) b1, v' _ _ _ (by omega) (by omega) b2, v' _ _ _ (by omega) (by omega) b3, v' _ _ _ (by omega) (by omega) b4, ⟨v' _ _ _ (by omega) (by omega) b5, v' _ _ _ (by omega) (by omega) b6⟩, v' _ _ _ (by omega) (by omega) b7, v' _ _ _ (by omega) (by omega) b8⟩
  have o45 : m 45 2 = 47 := v' _ _ _ (by omega) (by omega) o9
  have o451 : m 45 1 = 0 := v' _ _ _ (by omega) (by omega) o8
  have o75 : m 75 0 = 0 := v' _ _ _ (by omega) (by omega) o10
  have b0 : ∀ j : Int, 0 ≤ j → j < 8 → bt 0 j = false := fun j j1 j2 => by
    obtain ⟨n, rfl⟩ : ∃ n : Nat, j = n := ⟨j.toNat, by omega⟩
    exact (by decide +kernel : ∀ n : Fin 8, bt 0 (n.val : Int) = false) ⟨n, by omega⟩
  refine ⟨?_, fun i i1 i2 => ?_, fun i i1 i2 => ?_, fun i i1 i2 => ?_, ⟨fun _ => 0, ⟨fun r r1 r2 => ⟨Int.le_refl 0, show (0 : Int) ≤ 3 by omega⟩, fun r q r1 r2 q1 q2 h => ?_⟩, fun r r1 r2 => ?_⟩, ⟨fun q q1 q2 => ?_, ?_, fun q q1 q2 => ?_, fun q q' q1 q2 q3 q4 hq => ?_⟩, ⟨?_, ?_, fun i hi => ?_⟩, ⟨?_, ?_, fun i i1 i2 => ?_⟩, ⟨fun q q1 q2 => (F q q1 q2).2.1, ?_, Or.inl (v' _ _ _ (by omega) (by omega) o3)⟩, fun s s1 s2 => ?_, iCa_0 (fun j j1 j2 => ?_)⟩
  · unfold iCt
    rw [v' 1 0 0 (by omega) (by omega) o1, v' 1 1 0 (by omega) (by omega) o2]
    refine ⟨⟨by omega, by omega⟩, ⟨by omega, by omega⟩, fun j j1 j2 => ?_⟩
    rw [z105, z105, b0 j j1 j2]
    exact ⟨rfl, rfl⟩
  · rw [z106, z2]; omega
  · rw [n3 i i1 i2, n107 i i1 i2]; omega
  · rw [z108, z4]; omega
  · rw [z111] at h; omega
  · obtain ⟨f1, -, -, -, ⟨f5, f6⟩, -⟩ := F r r1 r2
    have g0 : rG m r 0 0 = 0 := z109 r
    have c0 : ∀ f : Int → Bool, cnr f 0 0 = 0 := fun f => cnr_0 (Int.le_refl 0)
    refine ⟨by rw [f1, f5, g0], by rw [g0]; omega, Or.inl ⟨g0, by rw [f1]; exact f6⟩, ⟨by rw [f1, f6]; omega, fun i i1 i2 => by rw [f1, f6] at i2; omega, fun q q1 q2 => ?_⟩, fun q q1 q2 => ?_⟩
    · rw [z111, f1, f6, c0]
    · rw [z111, g0, c0]
  · rw [(F q q1 q2).1]; unfold rcl; omega
  · rw [o45]; unfold rcl; omega
  · rw [(F q q1 q2).1, o45]; omega
  · rw [(F q q1 q2).1, (F q' q3 q4).1]; omega
  · rw [o451]; exact v' _ _ _ (by omega) (by omega) o11
  · rw [o451]; omega
  · rw [o451] at hi
    exact ⟨by rw [z119, z46], fun h => by omega⟩
  · rw [o75]; exact v' _ _ _ (by omega) (by omega) o12
  · rw [o75]; omega
  · rw [o75] at i2; omega
  · rw [v' 0 2 0 (by omega) (by omega) o3]; exact v' _ _ _ (by omega) (by omega) o13
  · obtain ⟨-, -, f3, f4, -, f7, f8⟩ := F s s1 s2
    rw [f3, f4, f7, f8, z159]
    refine ⟨rfl, rfl, by omega, rfl, by omega, fun i i1 i2 => by omega⟩
  · have hj : j = 12 ∨ j = 13 ∨ j = 14 ∨ j = 15 := by omega
    rcases hj with rfl | rfl | rfl | rfl
    · exact v' _ _ _ (by omega) (by omega) o4
    · exact v' _ _ _ (by omega) (by omega) o5
    · exact v' _ _ _ (by omega) (by omega) o6
    · exact v' _ _ _ (by omega) (by omega) o7
