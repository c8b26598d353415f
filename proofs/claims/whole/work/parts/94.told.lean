/-! what both sides were told: a ghost, and the relation of the two whole objects -/
abbrev Gh : Type := (Nat → Int32) × Nat × Int32 × Int32 × (Nat → Nat) × (Nat → Nat → Nat) × (Nat → Nat) × (Nat → Nat → Int32) × (Nat → Nat) × (Nat → Nat → Int32)
def g_t (g : Gh) : Nat → Int32 := g.1
def g_l (g : Gh) : Nat := g.2.1
def g_f (g : Gh) : Int32 := g.2.2.1
def g_p (g : Gh) : Int32 := g.2.2.2.1
def g_c (g : Gh) : Nat → Nat := g.2.2.2.2.1
def g_N (g : Gh) : Nat → Nat → Nat := g.2.2.2.2.2.1
def g_q (g : Gh) : Nat → Nat := g.2.2.2.2.2.2.1
def g_R (g : Gh) : Nat → Nat → Int32 := g.2.2.2.2.2.2.2.1
def g_k (g : Gh) : Nat → Nat := g.2.2.2.2.2.2.2.2.1
def g_L (g : Gh) : Nat → Nat → Int32 := g.2.2.2.2.2.2.2.2.2
/-- a log as told -/
def lOk (k : Nat) (L : Nat → Int32) : Prop := k ≤ 8 ∧ ∀ i, i < k → (∃ x, x < 60 ∧ L (1 + 2 * i) = nI x) ∧ (L (2 + 2 * i) = -1 ∨ ∃ y, y ≤ 99 ∧ L (2 + 2 * i) = nI y)
def vL (l : Nat) (h : Hp) (k : Nat) (L : Nat → Int32) : Prop := h.1 l 0 = nI k ∧ ∀ i, i < k → h.1 (l + 1) i = L (1 + 2 * i) ∧ h.1 (l + 2) i = L (2 + 2 * i)
def gOk (g : Gh) : Prop := (g_l g ≤ 600 ∧ ∀ i, i < g_l g → (g_t g i).toInt8.toInt32 = g_t g i) ∧ (∀ s, s < 3 → g_c g s ≤ 2) ∧ (∀ i, i < g_c g 0 → nOk (g_N g i)) ∧ (∀ i, i < g_c g 1 → rOk (g_q g i) (g_R g i)) ∧ ∀ i, i < g_c g 2 → lOk (g_k g i) (g_L g i)
/-- a Told of the class at t: its references, and what it holds -/
def cTr (t : Nat) (h : Hp) : Prop := ∀ i, i < 2 → h.2.2 (t + 3) i = some (t + 4 + 13 * i) ∧ h.2.2 (t + 30) i = some (t + 31 + 4 * i) ∧ h.2.2 (t + 39) i = some (t + 40 + 3 * i)
def cT (t : Nat) (h : Hp) (g : Gh) : Prop :=
  h.1 t 1 = nI (g_l g) ∧ (∀ i, i < g_l g → h.1 (t + 1) i = g_t g i) ∧ h.1 t 2 = g_f g ∧ h.1 t 3 = g_p g ∧ (∀ s, s < 3 → h.1 (t + 2) s = nI (g_c g s)) ∧ (∀ i, i < g_c g 0 → vN (t + 4 + 13 * i) h (g_N g i)) ∧ (∀ i, i < g_c g 1 → vR (t + 31 + 4 * i) h (g_q g i) (g_R g i)) ∧ ∀ i, i < g_c g 2 → vL (t + 40 + 3 * i) h (g_k g i) (g_L g i)
/-- the row s of the reference -/
def mT (m : Nat) (h : Hp) (s : Nat) (g : Gh) : Prop :=
  h.1 (m + 2) s = nI (g_l g) ∧ (∀ i, i < g_l g → h.1 (m + 1) (600 * s + i) = g_t g i) ∧ h.1 (m + 3) s = g_f g ∧ h.1 (m + 4) s = g_p g ∧ (∀ k, k < 3 → h.1 (m + 5) (3 * s + k) = nI (g_c g k)) ∧ (∀ i, i < g_c g 0 → ∀ p, p < 122 → h.1 (m + 6) (122 * (2 * s + i) + p) = nI (g_N g i p)) ∧ (∀ i, i < g_c g 1 → h.1 (m + 7) (121 * (2 * s + i)) = nI (g_q g i) ∧ ∀ p, 1 ≤ p → p < 121 → h.1 (m + 7) (121 * (2 * s + i) + p) = g_R g i p) ∧ ∀ i, i < g_c g 2 → h.1 (m + 8) (17 * (2 * s + i)) = nI (g_k g i) ∧ ∀ p, 1 ≤ p → p < 17 → h.1 (m + 8) (17 * (2 * s + i) + p) = g_L g i p
/-- where the Tolds lie: the one in use, and three images -/
def tA (x z : Nat) : Nat := if z = 0 then x + 1 else x + 2 + 46 * z
def KX (K : Ly) (x : Nat) : Prop := KC K (x + 210) ∧ ∀ z, z < 4 → ∀ i, i < 2 → K (tA x z + 4 + 13 * i) = some (.inl 2) ∧ K (tA x z + 31 + 4 * i) = some (.inl 3) ∧ K (tA x z + 40 + 3 * i) = some (.inl 4)
def XG (x : Nat) (h1 : Hp) (m : Nat) (h2 : Hp) (g : Gh) : Prop := gOk g ∧ cT (x + 1) h1 g ∧ mT m h2 0 g
def XI (x : Nat) (h1 : Hp) (m : Nat) (h2 : Hp) (k : Nat) : Prop := h1.2.2 (x + 47) k = some (tA x (k + 1)) ∧ h1.1 (x + 186) k = h2.1 (m + 52) k ∧ (h1.1 (x + 186) k = 0 ∨ (h1.1 (x + 186) k = 1 ∧ ∃ g, gOk g ∧ cT (tA x (k + 1)) h1 g ∧ mT m h2 (k + 1) g))
def XX (x : Nat) (h1 : Hp) (m : Nat) (h2 : Hp) : Prop := (∀ z, z < 4 → cTr (tA x z) h1) ∧ cX (x + 210) h1 ∧ (∃ g, XG x h1 m h2 g) ∧ ∀ k, k < 3 → XI x h1 m h2 k
section Told
variable {K1 K2 : Ly} {n x m : Nat} {h1 h2 h1' h2' : Hp} {g : Gh}
theorem cT.kp {t : Nat} (v : cT t h1 g) (gk : gOk g) (e : ∀ a k, a < t + 46 → h1'.1 a k = h1.1 a k) : cT t h1' g := by
  have c0 := gk.2.1 0 (by omega)
  have c1 := gk.2.1 1 (by omega)
  have c2 := gk.2.1 2 (by omega)
  obtain ⟨v1, v2, v3, v4, v5, v6, v7, v8⟩ := v
  refine ⟨by rw [e _ _ (by omega)]; exact v1, fun i hi => by rw [e _ _ (by omega)]; exact v2 i hi, by rw [e _ _ (by omega)]; exact v3, by rw [e _ _ (by omega)]; exact v4, fun s hs => by rw [e _ _ (by omega)]; exact v5 s hs, fun i hi => (v6 i hi).kp (fun a k h1 h2 => e a k (by omega)), fun i hi => (v7 i hi).kp (c := t + 46) (by omega) e, fun i hi => ?_⟩
  obtain ⟨w1, w2⟩ := v8 i hi
  refine ⟨by rw [e _ _ (by omega)]; exact w1, fun k hk => ?_⟩
  rw [e _ _ (by omega), e _ _ (by omega)]; exact w2 k hk
theorem mT.kp {s : Nat} {R : List Nat} (v : mT m h2 s g) (q : ChM R m h2 h2') (hd : dj [1, 2, 3, 4, 5, 6, 7, 8] R = true) : mT m h2' s g := by
  obtain ⟨v1, v2, v3, v4, v5, v6, v7, v8⟩ := v
  refine ⟨by rw [q.a (by omega) (dj_n hd (by simp))]; exact v1, fun i hi => by rw [q.a (by omega) (dj_n hd (by simp))]; exact v2 i hi, by rw [q.a (by omega) (dj_n hd (by simp))]; exact v3, by rw [q.a (by omega) (dj_n hd (by simp))]; exact v4, fun k hk => by rw [q.a (by omega) (dj_n hd (by simp))]; exact v5 k hk, fun i hi p hp => by rw [q.a (by omega) (dj_n hd (by simp))]; exact v6 i hi p hp, fun i hi => ⟨by rw [q.a (by omega) (dj_n hd (by simp))]; exact (v7 i hi).1, fun p h1 h2 => by rw [q.a (by omega) (dj_n hd (by simp))]; exact (v7 i hi).2 p h1 h2⟩, fun i hi => ⟨by rw [q.a (by omega) (dj_n hd (by simp))]; exact (v8 i hi).1, fun p h1 h2 => by rw [q.a (by omega) (dj_n hd (by simp))]; exact (v8 i hi).2 p h1 h2⟩⟩
theorem tA_le {z : Nat} (hz : z < 4) : tA x z + 46 ≤ x + 187 := by unfold tA; split <;> omega
theorem XG.kp {R : List Nat} (v : XG x h1 m h2 g) (e : ∀ a k, a < x + 187 → h1'.1 a k = h1.1 a k) (q : ChM R m h2 h2') (hd : dj [1, 2, 3, 4, 5, 6, 7, 8] R = true) : XG x h1' m h2' g :=
  ⟨v.1, v.2.1.kp v.1 (fun a k ha => e a k (by omega)), v.2.2.kp q hd⟩
theorem dj_w {l l' R : List Nat} (h : dj l R = true) (hs : ∀ r ∈ l', r ∈ l) : dj l' R = true := by
  unfold dj at h ⊢
  rw [List.all_eq_true] at h ⊢
  exact fun r hr => h r (hs r hr)
/-- what both sides were told stands, where neither side writes to it -/
theorem XX.kp {R : List Nat} (v : XX x h1 m h2) (e : ∀ a k, a < x + 187 → h1'.1 a k = h1.1 a k ∧ h1'.2.2 a k = h1.2.2 a k) (hx : cX (x + 210) h1') (q : ChM R m h2 h2') (hd : dj [1, 2, 3, 4, 5, 6, 7, 8, 52] R = true) : XX x h1' m h2' := by
  have hd' : dj [1, 2, 3, 4, 5, 6, 7, 8] R = true := dj_w hd (by simp)
  obtain ⟨v1, v2, ⟨g, v3⟩, v4⟩ := v
  refine ⟨fun z hz i hi => ?_, hx, ⟨g, v3.kp (fun a k ha => (e a k ha).1) q hd'⟩, fun k hk => ?_⟩
  · have := tA_le (x := x) hz
    rw [(e _ _ (by omega)).2, (e _ _ (by omega)).2, (e _ _ (by omega)).2]
    exact v1 z hz i hi
  · have := tA_le (x := x) (z := k + 1) (by omega)
    obtain ⟨w1, w2, w3⟩ := v4 k hk
    refine ⟨by rw [(e _ _ (by omega)).2]; exact w1, by rw [(e _ _ (by omega)).1, q.a (by omega) (dj_n hd (by simp))]; exact w2, ?_⟩
    rw [(e _ _ (by omega)).1]
    rcases w3 with w3 | ⟨w3, g', w4, w5, w6⟩
    · exact Or.inl w3
    · exact Or.inr ⟨w3, g', w4, w5.kp w4 (fun a k ha => (e a k (by omega)).1), w6.kp q hd'⟩
theorem m_is {s : Nat} (hs : s < 3) {a : Int32} (v : mT m h2 0 g) (gk : gOk g) : f11_is K2 n m (nI s) a h2 = some (if a < 0 then 0 else if a.toNatClampNeg < g_c g s then 1 else 0) := by
  have c0 := gk.2.1 s hs
  have e1 : inb (nI s) 12 = true := x_in (by omega) (by omega)
  have e2 : (nI s).toNatClampNeg = s := x_cl (by omega)
  have e3 := v.2.2.2.2.1 s hs
  rw [show 3 * 0 + s = s by omega] at e3
  unfold f11_is
  rw [e1, x_gd, e2, e3]
  by_cases ha : a < 0
  · rw [m_inG ha, if_pos ha]; rfl
  · obtain ⟨y, hy, rfl⟩ := nI_of ha
    rw [m_inL hy (by omega), if_neg ha, x_cl hy]
    by_cases hc : y < g_c g s
    · rw [if_pos hc]; rfl
    · rw [if_neg hc]; rfl
end Told
