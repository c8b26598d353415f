/-! one byte more, on both sides -/
section Byte
variable {x m : Nat} {h1 h2 : Hp} {g : Gh}
theorem both_byte (v : XX x h1 m h2) (vg : XG x h1 m h2 g) (hl : g_l g < 600) (b : Int32) (hb : b.toInt8.toInt32 = b) : ∃ g', g_l g' = g_l g + 1 ∧ XG x (sI (sI h1 (x + 1 + 1) (g_l g) b) (x + 1) 1 (nI (g_l g + 1))) m (sI (sI h2 (m + 1) (g_l g) b) (m + 2) 0 (nI (g_l g + 1))) g' ∧ XX x (sI (sI h1 (x + 1 + 1) (g_l g) b) (x + 1) 1 (nI (g_l g + 1))) m (sI (sI h2 (m + 1) (g_l g) b) (m + 2) 0 (nI (g_l g + 1))) := by
  have gk := vg.1
  have hg : XG x (sI (sI h1 (x + 1 + 1) (g_l g) b) (x + 1) 1 (nI (g_l g + 1))) m (sI (sI h2 (m + 1) (g_l g) b) (m + 2) 0 (nI (g_l g + 1))) (fun i => if i = g_l g then b else g.1 i, g_l g + 1, g.2.2) := by
    obtain ⟨k1, k2⟩ := gk
    obtain ⟨u1, u2, u3, u4, u5, u6, u7, u8⟩ := vg.2.1
    obtain ⟨w1, w2, w3, w4, w5, w6, w7, w8⟩ := vg.2.2
    have c0 := k2.1 0 (by omega)
    have c1 := k2.1 1 (by omega)
    have c2 := k2.1 2 (by omega)
    refine ⟨⟨⟨by show g_l g + 1 ≤ 600; omega, fun i hi => by
        show (if i = g_l g then b else g.1 i).toInt8.toInt32 = if i = g_l g then b else g.1 i
        by_cases h0 : i = g_l g
        · rw [if_pos h0]; exact hb
        · rw [if_neg h0]; exact k1.2 i (by have hi : i < g_l g + 1 := hi; omega)⟩, k2⟩, ⟨by rw [rI_e]; rfl, fun i hi => ?_, ?_, ?_, fun s hs => ?_, fun i hi => ?_, fun i hi => ?_, fun i hi => ?_⟩, ⟨by rw [rI_e]; rfl, fun i hi => ?_, ?_, ?_, fun s hs => ?_, fun i hi p hp => ?_, fun i hi => ?_, fun i hi => ?_⟩⟩
    · have hi : i < g_l g + 1 := hi
      show _ = if i = g_l g then b else g.1 i
      by_cases h0 : i = g_l g
      · rw [if_pos h0, h0, rI_n (by omega), rI_e]
      · rw [if_neg h0, rI_n (by omega), rI_n (by omega)]; exact u2 i (by omega)
    · rw [rI_n (by omega), rI_n (by omega)]; exact u3
    · rw [rI_n (by omega), rI_n (by omega)]; exact u4
    · rw [rI_n (by omega), rI_n (by omega)]; exact u5 s hs
    · exact (u6 i hi).kp (fun a k h1 h2 => by rw [rI_n (by omega), rI_n (by omega)])
    · obtain ⟨t1, t2⟩ := u7 i hi
      refine ⟨by rw [rI_n (by omega), rI_n (by omega)]; exact t1, fun k hk => ?_⟩
      rw [rI_n (by omega), rI_n (by omega), rI_n (by omega), rI_n (by omega), rI_n (by omega), rI_n (by omega)]; exact t2 k hk
    · obtain ⟨t1, t2⟩ := u8 i hi
      refine ⟨by rw [rI_n (by omega), rI_n (by omega)]; exact t1, fun k hk => ?_⟩
      rw [rI_n (by omega), rI_n (by omega), rI_n (by omega), rI_n (by omega)]; exact t2 k hk
    · have hi : i < g_l g + 1 := hi
      show _ = if i = g_l g then b else g.1 i
      by_cases h0 : i = g_l g
      · rw [if_pos h0, h0, show 600 * 0 + g_l g = g_l g by omega, rI_n (by omega), rI_e]
      · rw [if_neg h0, rI_n (by omega), rI_n (by omega)]; exact w2 i (by omega)
    · rw [rI_n (by omega), rI_n (by omega)]; exact w3
    · rw [rI_n (by omega), rI_n (by omega)]; exact w4
    · rw [rI_n (by omega), rI_n (by omega)]; exact w5 s hs
    · rw [rI_n (by omega), rI_n (by omega)]; exact w6 i hi p hp
    · refine ⟨by rw [rI_n (by omega), rI_n (by omega)]; exact (w7 i hi).1, fun p h1 h2 => ?_⟩
      rw [rI_n (by omega), rI_n (by omega)]; exact (w7 i hi).2 p h1 h2
    · refine ⟨by rw [rI_n (by omega), rI_n (by omega)]; exact (w8 i hi).1, fun p h1 h2 => ?_⟩
      rw [rI_n (by omega), rI_n (by omega)]; exact (w8 i hi).2 p h1 h2
  refine ⟨_, rfl, hg, v.st hg (fun a k ha => rfl) (fun a k h1 h2 => by rw [rI_n (by omega), rI_n (by omega)]) v.2.1 ⟨fun i hi => ?_, fun i hi => ⟨?_, ?_, ?_⟩, fun i hi => ?_, fun i hi => ?_, fun i hi => ?_, fun i hi => ?_, fun i => ?_⟩⟩
  all_goals rw [rI_n (by omega), rI_n (by omega)]
end Byte
