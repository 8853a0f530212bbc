/-! THE CLAIM -/
set_option maxRecDepth 100000 in
theorem yl_cases (X : Nat × (Nat → Int32)) (hX : X.1 ≤ 1536) (pc : Nat) (hpc : pc ∈ [132, 220, 256, 292, 328, 364, 436, 480, 493, 506, 556, 592, 605, 661, 717, 773, 829, 873, 929, 954]) : yl_C X pc := by
  simp only [List.mem_cons, List.not_mem_nil, or_false] at hpc
  rcases hpc with z | z | z | z | z | z | z | z | z | z | z | z | z | z | z | z | z | z | z | z
  · rw [z]; exact yl_132 hX
  · rw [z]; exact yl_220 hX
  · rw [z]; exact yl_256 hX
  · rw [z]; exact yl_292 hX
  · rw [z]; exact yl_328 hX
  · rw [z]; exact yl_364 hX
  · rw [z]; exact yl_436 hX
  · rw [z]; exact yl_480 hX
  · rw [z]; exact yl_493 hX
  · rw [z]; exact yl_506 hX
  · rw [z]; exact yl_556 hX
  · rw [z]; exact yl_592 hX
  · rw [z]; exact yl_605 hX
  · rw [z]; exact yl_661 hX
  · rw [z]; exact yl_717 hX
  · rw [z]; exact yl_773 hX
  · rw [z]; exact yl_829 hX
  · rw [z]; exact yl_873 hX
  · rw [z]; exact yl_929 hX
  · rw [z]; exact yl_954 hX
set_option maxRecDepth 100000 in
theorem i_vc : Claimed_1_1 ∧ Claimed_1_2 := zt_claim (yl_pure yl_cases)
