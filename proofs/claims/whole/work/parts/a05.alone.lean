/-! alone: both sides alike -/
section Alone
variable {K1 K2 : Ly} {n x m c o j : Nat} {h1 h2 : Hp} {N : Nat → Nat} {aw : Int32} {g : Gh} {a a1 a2 a3 a4 a5 : Int32}
/-- both sides begin -/
theorem both_begin (ok : nOk N) (kc : KC K1 c) (hn : 5000 ≤ n) (hx : cX c h1) (ho : o + 13 ≤ c) (ko : K1 o = some (.inl 2)) (vn : vN o h1 N) (vmn : vMN m h2 N j) : ∃ (k1 k2 : Hp) (st : St), f10_begin K1 n c o aw h1 = some k1 ∧ f11_begin K2 n m aw h2 = some k2 ∧ WW K1 c k1 o m k2 j N aw 0 st ∧ s_n st = 0 ∧ (∀ k, ¬ s_B st k 8 = 1) ∧ (∀ a k, (a < c ∨ c + 827 ≤ a) → k1.1 a k = h1.1 a k ∧ k1.2.1 a k = h1.2.1 a k ∧ k1.2.2 a k = h1.2.2 a k) ∧ ChM (11 :: RP) m h2 k2 := by
  obtain ⟨k1, a1, a2, a3, a4⟩ := cbegin (n := n) (aw := aw) kc hn hx ho ko vn
  obtain ⟨k2, b1, b2, b3⟩ := mbegin (K := K2) (n := n) aw (fun k i => h1.1 (c + 767 + k) i) ok hn vmn
  refine ⟨k1, k2, _, a1, b1, ⟨⟨a2, b2, inv_0⟩, fun l hl => by
    have hl : bI 0 l = true := hl
    rw [bI_0] at hl; cases hl⟩, rfl, fun k' hh => ?_, a4, b3.up (by decide)⟩
  exact absurd hh (by show ¬ (if (8 : Nat) < 8 then h1.1 (c + 767 + k') 8 else (0 : Int32)) = 1; rw [if_neg (by omega)]; decide)
theorem both_aloneR {nd nm : Nat} {ws : Int32} (ok : nOk N) (kc : KC K1 c) (hn : 5000 ≤ n) (hx : cX c h1) (ho : o + 13 ≤ c) (ko : K1 o = some (.inl 2)) (vn : vN o h1 N) (vmn : vMN m h2 N j) (hnd : nd < N 0) (hnm : nm < 531441) : ∃ (h1' k2 l2 h2' : Hp) (st : St), f10_askAlone K1 n c o (nI nd) (nI nm) ws h1 = some h1' ∧ f11_begin K2 n m (-1) h2 = some k2 ∧ f11_asks K2 n m (nI nd) (nI nm) ws 0 k2 = some (1, l2) ∧ f11_waits K2 n m 99 l2 = some (1, h2') ∧ WW K1 c h1' o m h2' j N (-1) 1 st ∧ s_B st 0 8 = 1 ∧ (∀ a k, (a < c ∨ c + 827 ≤ a) → h1'.1 a k = h1.1 a k ∧ h1'.2.1 a k = h1.2.1 a k ∧ h1'.2.2 a k = h1.2.2 a k) ∧ ChM (11 :: RP) m h2 h2' := by
  obtain ⟨k1, k2, st, b1, b2, b3, b4, b5, b6, b7⟩ := both_begin (K2 := K2) (aw := -1) ok kc hn hx ho ko vn vmn
  obtain ⟨l1, l2, st1, d1, d2, d3, d4, d5, d6, d7, d8⟩ := both_ask (K2 := K2) (k := 0) (ws := ws) ok kc hn (by omega) hnd hnm b3.1
  obtain ⟨H1, H2, st', e1, e2, e3, e4, e5, e6, e7, e8, e9⟩ := both_mins (K2 := K2) ok kc hn 99 l1 l2 st1 (by omega) ⟨d3, by rw [d5]; exact b3.2⟩
  have w1 : f10_askAlone_L18 K1 n c n (nI 0) (H1 0) = some (H1 99) := c_alone (fun i hi => (e3 i hi).1) 99 0 n (by omega) (by omega)
  have w2 : f11_waits_L15 K2 n m (nI 99) n (nI 0) (H2 0) = some (1, H2 99) := m_waits (by omega) (fun i hi => (e3 i hi).2) 99 0 n (by omega) (by omega)
  rw [e1] at w1
  rw [e2] at w2
  have l27 : l2.1 m 27 = nI 0 := by
    have := d3.2.1.2.1
    rw [d4, b4] at this
    exact this
  refine ⟨H1 99, k2, l2, H2 99, st', ?_, b2, d2, ?_, e4, ?_, fun a k ha => ?_, (b7.tr (d8.up (by decide))).tr (e9.up (by decide))⟩
  · unfold f10_askAlone
    rw [b1, x_bp]
    have d1' : f10_ask K1 n c (0 : Int32) (nI nd) (nI nm) ws k1 = some l1 := d1
    rw [d1', x_bp]
    exact w1
  · unfold f11_waits
    rw [l27, if_pos (show nI 0 + (99 : Int32) ≤ 99 by decide)]
    exact w2
  · rw [e7 0, d6 0, if_pos rfl]
  · obtain ⟨p1, p2, p3⟩ := e8.out (by decide) ha k
    obtain ⟨q1, q2, q3⟩ := d7.out (by decide) ha k
    obtain ⟨r1, r2, r3⟩ := b6 a k ha
    exact ⟨p1.trans (q1.trans r1), p2.trans (q2.trans r2), p3.trans (q3.trans r3)⟩
/-- the class takes a net up -/
theorem c_one {β : Type} {b : Option β} {F : Nat → Option β} {i : Nat} (kx : KX K1 x) (tr : cTr (tA x 0) h1) (v : XG x h1 m h2 g) (hi : i < g_c g 0) : (bp (f0_netAt K1 n x (nI i) h1) fun y2 => nl y2 b fun o5 => gd (isO K1 o5 2) (F o5)) = F (x + 5 + 13 * i) ∧ K1 (x + 5 + 13 * i) = some (.inl 2) ∧ vN (x + 5 + 13 * i) h1 (g_N g i) := by
  have c0 := v.1.2.1 0 (by omega)
  have e5 : K1 (x + 5 + 13 * i) = some (.inl 2) := by
    have : K1 (x + 1 + 4 + 13 * i) = some (.inl 2) := (kx.2 0 (by omega) i (by omega)).1
    rw [show x + 5 + 13 * i = x + 1 + 4 + 13 * i by omega]; exact this
  refine ⟨?_, e5, ?_⟩
  · rw [c_netAt kx tr v hi, x_bp]
    show gd (isO K1 (x + 5 + 13 * i) 2) (F (x + 5 + 13 * i)) = _
    rw [show isO K1 (x + 5 + 13 * i) 2 = true by simp [isO, e5], x_gd]
  · have := v.2.1.2.2.2.2.2.1 i hi
    rw [show x + 1 + 4 + 13 * i = x + 5 + 13 * i by omega] at this
    exact this
theorem c_oneNo {β : Type} {b : Option β} {F : Nat → Option β} (v : XG x h1 m h2 g) (hi : ¬ isI a (g_c g 0)) : (bp (f0_netAt K1 n x a h1) fun y2 => nl y2 b fun o5 => gd (isO K1 o5 2) (F o5)) = b := by
  rw [c_netNo v hi, x_bp]; rfl
end Alone
