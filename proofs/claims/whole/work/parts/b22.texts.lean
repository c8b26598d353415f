section TextS
variable {K1 K2 : Ly} {n x m : Nat} {h1 h2 : Hp} {g : Gh} {a1 a2 : Int32}
theorem cX.kr {c : Nat} {h h' : Hp} (v : cX c h) (e : ∀ a k, c ≤ a → h'.2.2 a k = h.2.2 a k) : cX c h' := by
  obtain ⟨⟨p, p1, p2⟩, ⟨q, q1, q2⟩, u1, u2⟩ := v
  refine ⟨⟨p, fun i hi => ⟨(p1 i hi).1, ?_⟩, p2⟩, ⟨q, fun i hi => ⟨(q1 i hi).1, ?_⟩, q2⟩, fun i hi => ?_, fun i hi => ?_⟩
  · rw [e _ _ (by omega)]; exact (p1 i hi).2
  · rw [e _ _ (by omega)]; exact (q1 i hi).2
  · rw [e _ _ (by omega)]; exact u1 i hi
  · rw [e _ _ (by omega)]; exact u2 i hi
theorem text_go {s k l : Nat} {t : Nat → Int32} {x5 : Int32} (kx : KX K1 x) (ku : K1 (x + 1 + 1) = some (.inr (1, 600))) (hn : 5000 ≤ n) (v : XX x h1 m h2) (vg : XG x h1 m h2 g) (hs : s < 3) (hk : k < 2) (hl : l ≤ 600) (bt : ∀ i, i < l → isBt (t i)) (h10 : h2.1 m 10 = nI l) (ht : ∀ i, i < l → h1.1 (x + 1 + 1) i = t i ∧ h2.1 (m + 1) i = t i) (g0 : g_l g = 0) (hx : (x5 = 0 ∧ a2 = nI k ∧ k < g_c g s) ∨ (x5 = 1 ∧ a2 = (-1 : Int32) ∧ k = g_c g s)) : CC x m (f0_text_J103 K1 n x (nI s) a2 (nI l) (nI (g_c g s)) x5 h1) (f11_text_J75 K2 n m (nI s) a2 h2) := by
  have cs := vg.1.2.1 s hs
  obtain ⟨F, Pl, p1, p2, r1, r2, r3, r4, r5, r6, r7, r8, r9, r10, r11⟩ := both_read (K2 := K2) (r := x + 187) ku (by omega) hn hs hl bt h10 ht
  obtain ⟨E, hE⟩ : ∃ E, E = sI (sI p1 (x + 1) 2 F) (x + 1) 3 Pl := ⟨_, rfl⟩
  have ea : ∀ a i, a ≠ x + 1 → ¬ (x + 187 ≤ a ∧ a ≤ x + 187 + 21) → E.1 a i = h1.1 a i := fun a i h1 h2 => by
    rw [hE, rI_n (by omega), rI_n (by omega), r8 a i h2]
  have eb : ∀ a i, a ≠ x + 1 → E.1 a i = p1.1 a i := fun a i h1 => by
    rw [hE, rI_n (by omega), rI_n (by omega)]
  have vg' : XG x E m p2 (g.1, 0, F, Pl, g.2.2.2.2) := by
    refine vg.lfp (by omega) (fun a i h1 h2 => ea a i h1 (by omega)) ?_ ?_ ?_ (fun a i ha => ?_) ?_ r5 r6
    · rw [hE, rI_n (by omega), rI_n (by omega), r8 _ _ (by omega), vg.2.1.1, g0]
    · rw [hE, rI_n (by omega), rI_e]
    · rw [hE, rI_e]
    · have : a = 1 ∨ a = 5 ∨ a = 6 ∨ a = 7 ∨ a = 8 := by omega
      rcases this with rfl | rfl | rfl | rfl | rfl
      all_goals exact r10.a (by omega) (by decide) i
    · rw [r10.a (by omega) (by decide), vg.2.2.1, g0]
  have v' : XX x E m p2 := by
    refine v.st vg' (fun a i ha => ?_) (fun a i h1 h2 => ea a i (by omega) (by omega)) (v.2.1.kr fun a i ha => ?_) ⟨fun i hi => ?_, fun i hi => ⟨?_, (r11 i hi).1, (r11 i hi).2⟩, fun i hi => ?_, fun i hi => ?_, fun i hi => ?_, fun i hi => ?_, fun i => ?_⟩
    · rw [hE]; exact r9 a i (by omega)
    · rw [hE]; exact r9 a i (by omega)
    all_goals exact r10.a (by omega) (by decide) i
  have eJ : f0_text_J103 K1 n x (nI s) a2 (nI l) (nI (g_c g s)) x5 h1 = if F = 0 then f0_text_J170 K1 n x (nI s) (if x5 = 0 then a2 else nI (g_c g s)) E else some ((-1 : Int32), E) := by
    unfold f0_text_J103
    have u1 : (sI p1 (x + 1) 2 F).1 (x + 187) 13 = Pl := by rw [rI_n (by omega), r4]
    have u2 : E.1 (x + 187) 12 = F := by rw [eb _ _ (by omega), r3]
    rw [r1, x_bp, x_lt, x_lt, r3, u1, ← hE, u2]
  rw [eJ]
  unfold f11_text_J75
  rw [r2, x_bd]
  by_cases hF : F = 0
  · rw [if_pos hF, if_pos hF, if_neg (show ¬ (1 : Int32) = 0 by decide)]
    have C : Ctn (x + 187) m s E p2 := by
      rcases r7 hF with ⟨s0, N', N1, N2⟩ | ⟨s1, q, Q0, Q1, Q2⟩ | ⟨s2, q, Q0, Q1, Q2⟩
      · exact Or.inl ⟨s0, N', N1.kp (fun a i h1 h2 => eb a i (by omega)), N2⟩
      · exact Or.inr (Or.inl ⟨s1, q, Q0, Q1.kq (fun a i h1 h2 => eb a i (by omega)), Q2⟩)
      · exact Or.inr (Or.inr ⟨s2, q, Q0, Q1.kq (fun a i h1 h2 => eb a i (by omega)), Q2⟩)
    have em : p2.1 (m + 5) (nI s).toNatClampNeg = nI (g_c g s) := by
      rw [x_cl (by omega)]
      have := vg'.2.2.2.2.2.2.1 s hs
      rw [show 3 * 0 + s = s by omega] at this
      exact this
    have i12 : inb (nI s) 12 = true := x_in (by omega) (by omega)
    rcases hx with ⟨rfl, rfl, hc⟩ | ⟨rfl, rfl, hc⟩
    · have hm : ¬ nI k = (-1 : Int32) := fun hh => absurd (show nI k < 0 by rw [hh]; decide) (nI_pos (by omega))
      rw [if_pos rfl, if_neg hm]
      unfold f11_text_J100
      rw [i12, x_gd, em, if_neg hm]
      exact both_put (K2 := K2) kx hn v' vg' hs hk (show k ≤ g_c g s by omega) C (show nI (g_c g s) + 0 = nI (max (g_c g s) (k + 1)) by rw [show max (g_c g s) (k + 1) = g_c g s by omega, Int32.add_zero])
    · subst hc
      rw [if_neg (show ¬ (1 : Int32) = 0 by decide), if_pos rfl, i12, x_gd]
      unfold f11_text_J100
      rw [i12, x_gd, em, if_pos rfl]
      exact both_put (K2 := K2) kx hn v' vg' hs hk (Nat.le_refl _) C (show nI (g_c g s) + 1 = nI (max (g_c g s) (g_c g s + 1)) by rw [show max (g_c g s) (g_c g s + 1) = g_c g s + 1 by omega, nI_1])
  · rw [if_neg hF, if_neg hF, if_pos rfl]
    exact ⟨-1, E, p2, rfl, rfl, v'⟩
theorem both_text (kx : KX K1 x) (ku : K1 (x + 1 + 1) = some (.inr (1, 600))) (hn : 5000 ≤ n) (v : XX x h1 m h2) : CC x m (f0_text K1 n x a1 a2 h1) (f11_text K2 n m a1 a2 h2) := by
  obtain ⟨g, vg⟩ := v.2.2.1
  obtain ⟨l, hl⟩ : ∃ l, l = g_l g := ⟨_, rfl⟩
  obtain ⟨E, hE⟩ : ∃ E, E = sI (sI (sI h1 (x + 1) 1 (0 : Int32)) (x + 1) 2 (0 : Int32)) (x + 1) 3 (-1 : Int32) := ⟨_, rfl⟩
  obtain ⟨M, hM⟩ : ∃ M, M = sI (sI (sI (sI (sI h2 m 0 (0 : Int32)) m 10 (nI l)) (m + 2) 0 (0 : Int32)) (m + 3) 0 (0 : Int32)) (m + 4) 0 (-1 : Int32) := ⟨_, rfl⟩
  have ea : ∀ a i, a ≠ x + 1 → E.1 a i = h1.1 a i := fun a i h1 => by
    rw [hE, rI_n (by omega), rI_n (by omega), rI_n (by omega)]
  have ma : ∀ a i, 0 < a → ¬ (i = 0 ∧ 2 ≤ a ∧ a ≤ 4) → M.1 (m + a) i = h2.1 (m + a) i := fun a i ha h1 => by
    rw [hM, rI_n (by omega), rI_n (by omega), rI_n (by omega), rI_n (by omega), rI_n (by omega)]
  have vg' : XG x E m M (g.1, 0, 0, -1, g.2.2.2.2) := by
    refine vg.lfp (by omega) (fun a i h1 h2 => ea a i h1) ?_ ?_ ?_ (fun a i ha => ma a i (by omega) (by omega)) ?_ ?_ ?_
    · rw [hE, rI_n (by omega), rI_n (by omega), rI_e]; rfl
    · rw [hE, rI_n (by omega), rI_e]
    · rw [hE, rI_e]
    · rw [hM, rI_n (by omega), rI_n (by omega), rI_e]; rfl
    · rw [hM, rI_n (by omega), rI_e]
    · rw [hM, rI_e]
  have v' : XX x E m M := by
    refine v.st vg' (fun a i ha => by rw [hE]; rfl) (fun a i h1 h2 => ea a i (by omega)) (v.2.1.kr fun a i ha => by rw [hE]; rfl) ⟨fun i hi => ?_, fun i hi => ⟨?_, ?_, ?_⟩, fun i hi => ?_, fun i hi => ?_, fun i hi => ?_, fun i hi => ?_, fun i => ?_⟩
    all_goals exact ma _ i (by omega) (by omega)
  have c1 : h1.1 (x + 1) 1 = nI l := by rw [hl]; exact vg.2.1.1
  have c2 : (sI h2 m 0 (0 : Int32)).1 (m + 2) 0 = nI l := by rw [hl, rI_n (by omega)]; exact vg.2.2.1
  have z0 : (0 : Int32).toNatClampNeg = 0 := rfl
  unfold f0_text f11_text
  rw [x_lt, x_lt, x_lt, x_lt, x_lt, x_lt, x_lt, x_lt, x_lt, z0, c1, c2, ← hE, ← hM]
  try rw [x_lt]
  by_cases h3 : isI a1 3
  · obtain ⟨s, hs, rfl⟩ := isI_of (by omega) h3
    have cs := vg.1.2.1 s hs
    have eh : E.1 (x + 1 + 2) (nI s).toNatClampNeg = nI (g_c g s) := by rw [x_cl (by omega)]; exact vg'.2.1.2.2.2.2.1 s hs
    have em : M.1 (m + 5) (nI s).toNatClampNeg = nI (g_c g s) := by
      rw [x_cl (by omega)]
      have := vg'.2.2.2.2.2.2.1 s hs
      rw [show 3 * 0 + s = s by omega] at this
      exact this
    have s3 : nI s < (3 : Int32) := nI_lt (b := 3) hs (by omega)
    rw [if_neg h3.1, if_pos s3, x_in hs (by omega), x_gd, eh, (isI_3 h3).2.2, if_neg (show ¬ (1 : Int32) = 0 by decide)]
    unfold f0_text_J71
    have go := fun (k : Nat) (x5 : Int32) (hk : k < 2) (hx : (x5 = 0 ∧ a2 = nI k ∧ k < g_c g s) ∨ (x5 = 1 ∧ a2 = (-1 : Int32) ∧ k = g_c g s)) => text_go (K2 := K2) (g := (g.1, 0, 0, -1, g.2.2.2.2)) (t := g_t g) (l := l) (k := k) (x5 := x5) (a2 := a2) kx ku hn v' vg' hs hk (by rw [hl]; exact vg.1.1.1) (fun i hi => vg.1.1.2 i (by omega)) (by rw [hM, rI_n (by omega), rI_n (by omega), rI_n (by omega), rI_e]) (fun i hi => ⟨(ea _ _ (by omega)).trans (vg.2.1.2.1 i (by omega)), (ma 1 i (by omega) (by omega)).trans (by have := vg.2.2.2.1 i (by omega); rw [show 600 * 0 + i = i by omega] at this; exact this)⟩) rfl hx
    by_cases hm : a2 = (-1 : Int32)
    · rw [if_pos hm, if_pos hm, x_in (show s < 12 by omega) (by omega), x_gd, em]
      by_cases h2 : g_c g s = 2
      · have e2 : nI (g_c g s) = (2 : Int32) := by rw [h2]; rfl
        rw [e2, if_pos (show (2 : Int32) ≤ 2 by decide), if_pos rfl]
        unfold f0_text_J88
        rw [if_pos rfl, if_pos (show a2 < 0 by rw [hm]; decide), if_pos rfl]
        exact ⟨-2, E, M, rfl, rfl, v'⟩
      · have e2 : ¬ (2 : Int32) ≤ nI (g_c g s) := fun hh => by have : (nI 2 ≤ nI (g_c g s)) = (2 ≤ g_c g s) := x_le (by omega) (by omega); have h4 : nI 2 ≤ nI (g_c g s) := hh; rw [this] at h4; omega
        have e3 : ¬ nI (g_c g s) = (2 : Int32) := fun hh => h2 (by have : (nI (g_c g s) = nI 2) = (g_c g s = 2) := x_eq (by omega) (by omega); rw [← this]; exact hh)
        rw [if_neg e2, if_neg e3]
        unfold f0_text_J88
        rw [if_neg (show ¬ (1 : Int32) = 0 by decide)]
        exact go (g_c g s) 1 (by omega) (Or.inr ⟨rfl, hm, rfl⟩)
    · have is := m_is (K2 := K2) (n := n) (a := a2) hs vg'.2.2 vg'.1
      have is : f11_is K2 n m (nI s) a2 M = some (if a2 < 0 then 0 else if a2.toNatClampNeg < g_c g s then 1 else 0) := is
      rw [if_neg hm, if_neg hm, is, x_bp]
      unfold f0_text_J88
      rw [if_pos rfl]
      by_cases h2 : isI a2 (g_c g s)
      · obtain ⟨k, hk, rfl⟩ := isI_of (by omega) h2
        have e2 : ¬ nI (g_c g s) ≤ nI k := nI_ge (by omega) (by omega)
        rw [if_neg h2.1, if_neg e2, if_neg (show ¬ (1 : Int32) = 0 by decide), if_neg h2.1, if_pos (show (nI k).toNatClampNeg < g_c g s by rw [x_cl (by omega)]; exact hk), if_neg (show ¬ (1 : Int32) = 0 by decide)]
        exact go k 0 (by omega) (Or.inl ⟨rfl, rfl, hk⟩)
      · by_cases ha : a2 < 0
        · rw [if_pos ha, if_pos rfl, if_pos ha, if_pos rfl]
          exact ⟨-2, E, M, rfl, rfl, v'⟩
        · obtain ⟨k, hk, rfl⟩ := nI_of ha
          have hk2 : g_c g s ≤ k := Nat.le_of_not_lt fun hh => h2 (isI_nI (by omega) hh)
          rw [if_neg ha, if_pos (nI_le hk2 hk), if_pos rfl, if_neg ha, if_neg (show ¬ (nI k).toNatClampNeg < g_c g s by rw [x_cl hk]; omega), if_pos rfl]
          exact ⟨-2, E, M, rfl, rfl, v'⟩
  · have e1 : ∀ F : Option (Int32 × Hp), (if a1 < 0 then some ((-2 : Int32), E) else if a1 < (3 : Int32) then F else some ((-2 : Int32), E)) = some ((-2 : Int32), E) := fun F => by
      by_cases ha : a1 < 0
      · rw [if_pos ha]
      · obtain ⟨k, hk, rfl⟩ := nI_of ha
        have : ¬ nI k < (3 : Int32) := nI_nlt (b := 3) (Nat.le_of_not_lt fun hh => h3 (isI_nI (by omega) hh)) hk
        rw [if_neg ha, if_neg this]
    rw [e1, m_in2 h3, if_pos rfl]
    exact ⟨-2, E, M, rfl, rfl, v'⟩
end TextS
