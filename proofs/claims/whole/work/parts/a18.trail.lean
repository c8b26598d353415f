/-! trail, on both sides -/
def ctn (f : Nat → Bool) : Nat → Nat
  | 0 => 0
  | k + 1 => ctn f k + (if f k = true then 1 else 0)
theorem ctn_le (f : Nat → Bool) : ∀ k, ctn f k ≤ k := by
  intro k
  induction k with
  | zero => exact Nat.le_refl _
  | succ k ih => simp only [ctn]; split <;> omega
theorem ctn_all {f : Nat → Bool} : ∀ {k : Nat}, ctn f k = k → ∀ i, i < k → f i = true := by
  intro k
  induction k with
  | zero => intro _ i hi; omega
  | succ k ih =>
    intro h i hi
    have := ctn_le f k
    simp only [ctn] at h
    by_cases hk : f k = true
    · rw [if_pos hk] at h
      by_cases he : i = k
      · rw [he]; exact hk
      · exact ih (by omega) i (by omega)
    · rw [if_neg hk] at h; omega
theorem ctn_eq {f g : Nat → Bool} : ∀ {k : Nat}, (∀ i, i < k → g i = f i) → ctn g k = ctn f k := by
  intro k
  induction k with
  | zero => intro _; rfl
  | succ k ih => intro h; simp only [ctn]; rw [ih (fun i hi => h i (by omega)), h k (by omega)]
theorem ctn_add {f g : Nat → Bool} {a : Nat} : ∀ {k : Nat}, a < k → f a = false → g a = true → (∀ i, i < k → i ≠ a → g i = f i) → ctn g k = ctn f k + 1 := by
  intro k
  induction k with
  | zero => intro h; omega
  | succ k ih =>
    intro h hf hg he
    simp only [ctn]
    by_cases hk : a = k
    · subst hk
      rw [ctn_eq (fun i hi => he i (by omega) (by omega)), hf, hg]; simp
    · rw [ih (by omega) hf hg (fun i hi hn => he i (by omega) hn), he k (by omega) (by omega)]; omega
theorem ctn_0 : ∀ k, ctn (bI 0) k = 0 := by
  intro k
  induction k with
  | zero => rfl
  | succ k ih => simp only [ctn, ih, bI_0]; rfl
section Trail
variable {K1 K2 : Ly} {n x o m j : Nat} {h1 h2 : Hp} {N : Nat → Nat} {g : Gh} {a a1 a2 a3 a4 : Int32}
def tE1 (K : Ly) (c : Nat) (h : Hp) (o : Nat) (N : Nat → Nat) : Prop := cN K c h o N (-1) ∧ h.1 c 3 = 0 ∧ (∀ i, i < 36 → h.1 (c + 18) i = (fun _ => (-1 : Int32)) i)
def tE2 (m : Nat) (h : Hp) (j : Nat) (N : Nat → Nat) : Prop := mN m h j N (-1) ∧ h.1 m 26 = 0 ∧ (∀ i, i < 36 → h.1 (m + 13) i = (fun _ => (-1 : Int32)) i)
theorem tE1.kp {c : Nat} (e : tE1 K1 c h1 o N) (ho : o + 13 ≤ c) {p k : Nat} {w : Int32} (hp : c + 19 ≤ p) : tE1 K1 c (sI h1 p k w) o N := by
  obtain ⟨⟨e1, e2, e3, e4⟩, e5, e6⟩ := e
  exact ⟨⟨e1, e2, e3.kp (fun a k _ _ => rI_n (by omega)), by rw [rI_n (by omega)]; exact e4⟩, by rw [rI_n (by omega)]; exact e5, fun i hi => by rw [rI_n (by omega)]; exact e6 i hi⟩
theorem tE2.kp {R : List Nat} {h2' : Hp} (e : tE2 m h2 j N) (q : ChM R m h2 h2') (hd : dj [6, 11, 13, 122, 123, 124, 126] R = true) : tE2 m h2' j N := by
  obtain ⟨e1, e2, e3⟩ := e
  exact ⟨e1.kp q (dj_w hd (by simp)), by rw [q.f (dj_n hd (by simp))]; exact e2, fun i hi => by rw [q.a (by omega) (dj_n hd (by simp))]; exact e3 i hi⟩
theorem both_walk (ok : nOk N) (hn : 5000 ≤ n) (ho : o + 13 ≤ x + 210) {nm : Nat} (hm : nm < 531441) {a4 : Int32} : ∀ (d t fu fu' : Nat) (sn fr sz : Int32) (at_ : Nat) (h1 h2 : Hp), t + d = 7 → d + 1 < fu → d < fu' → at_ < N 0 → tE1 K1 (x + 210) h1 o N → tE2 m h2 j N → h2.1 m 79 = nI t → ctn (bI sn) 6 = t → (∀ k, k < t → h1.1 (x + 1037) k = h2.1 (m + 49) k) → ∃ (s : Nat) (e : Int32) (h1' h2' : Hp), f0_trail_L58 K1 n x (nI nm) a4 o fu sn (if fr = (-1 : Int32) then 0 else (1 : Int32) <<< (fr &&& 31)) (nI at_) sz 0 (nI t) h1 = f0_trail_J173 K1 n x a4 (nI s) e h1' ∧ f11_walks_L13 K2 n m (nI nm) fu' sn fr (nI at_) h2 = some (e, h2') ∧ s ≤ 7 ∧ h2'.1 m 79 = nI s ∧ (∀ k, k < s → h1'.1 (x + 1037) k = h2'.1 (m + 49) k) ∧ (∀ b k, b < x + 1037 → h1'.1 b k = h1.1 b k) ∧ h1'.2 = h1.2 ∧ ChM [49, 179] m h2 h2' := by
  have b0 := ok.1
  intro d
  induction d with
  | zero =>
    intro t fu fu' sn fr sz at_ h1 h2 ht hf hf' ha e1 e2 h79 hc hp
    have := ctn_le (bI sn) 6
    omega
  | succ d ih =>
    intro t fu fu' sn fr sz at_ h1 h2 ht hf hf' ha e1 e2 h79 hc hp
    obtain ⟨fu, rfl⟩ : ∃ g, fu = g + 1 + 1 := ⟨fu - 2, by omega⟩
    obtain ⟨fu', rfl⟩ : ∃ g, fu' = g + 1 := ⟨fu' - 1, by omega⟩
    have k1 : ¬ (7 : Int32) ≤ nI t := by rw [show (7 : Int32) = nI 7 from rfl]; exact nI_ge (by omega) (by omega)
    have k2 : inb (nI t) 7 = true := x_in (by omega) (by omega)
    have k3 : inb (nI t) 8 = true := x_in (by omega) (by omega)
    have k4 : (nI t).toNatClampNeg = t := x_cl (by omega)
    have d1 : tE1 K1 (x + 210) (sI h1 (x + 1037) t (nI at_)) o N := e1.kp ho (by omega)
    have cb := cbest (K := K1) (n := n) ok d1.1 d1.2.1 d1.2.2 (nd := at_) (nm := nm) (bar := if fr = (-1 : Int32) then 0 else (1 : Int32) <<< (fr &&& 31)) (by omega) hm (by omega)
    have cs := serving_ok (K := K1) (n := n) ok d1.1.2.2.1 (nd := at_) hm (by omega) (by omega)
    have ch : ChM [49, 179] m h2 (sI (sI h2 (m + 49) t (nI at_)) m 79 (nI (t + 1))) := ChM.F (by simp) (ChM.A (by omega) (by simp) ChM.rf)
    have d2 := e2.kp ch (by decide)
    have ms := mserveFor (K := K2) (n := n) ok d2.1.1 (nd := at_) hm (by omega) (by omega)
    have mb := mbest (K := K2) (n := n) ok d2.1 d2.2.1 d2.2.2 (fun _ _ => Or.inl rfl) (nd := at_) (nm := nm) (bar := if fr = (-1 : Int32) then 0 else (1 : Int32) <<< (fr &&& 31)) (by omega) hm (by omega)
    have r79 : (sI h2 (m + 49) t (nI at_)).1 m 79 = nI t := by rw [rI_n (by omega)]; exact h79
    have p' : ∀ k, k < t + 1 → (sI h1 (x + 1037) t (nI at_)).1 (x + 1037) k = (sI (sI h2 (m + 49) t (nI at_)) m 79 (nI (t + 1))).1 (m + 49) k := fun k hk => by
      rw [rI_n (ha := sI h2 (m + 49) t (nI at_)) (by omega)]
      by_cases hkt : k = t
      · rw [hkt, rI_e, rI_e]
      · rw [rI_n (by omega), rI_n (by omega)]; exact hp k (by omega)
    have q' : ∀ b k, b < x + 1037 → (sI h1 (x + 1037) t (nI at_)).1 b k = h1.1 b k := fun b k hb => rI_n (by omega)
    have c1 : f0_trail_L58 K1 n x (nI nm) a4 o (fu + 1 + 1) sn (if fr = (-1 : Int32) then 0 else (1 : Int32) <<< (fr &&& 31)) (nI at_) sz 0 (nI t) h1 = if bI sn at_ = false then f0_trail_L58 K1 n x (nI nm) a4 o (fu + 1) (if oI (sv N at_ nm) = (-1 : Int32) then (if oI (bw N (-1) 0 (fun _ => -1) at_ nm (if fr = (-1 : Int32) then 0 else (1 : Int32) <<< (fr &&& 31))) = (-1 : Int32) then sn else (sn ||| ((1 : Int32) <<< (nI at_ &&& 31)))) else sn) (if oI (sv N at_ nm) = (-1 : Int32) then (if oI (bw N (-1) 0 (fun _ => -1) at_ nm (if fr = (-1 : Int32) then 0 else (1 : Int32) <<< (fr &&& 31))) = (-1 : Int32) then (if fr = (-1 : Int32) then 0 else (1 : Int32) <<< (fr &&& 31)) else ((1 : Int32) <<< (nI at_ &&& 31))) else (if fr = (-1 : Int32) then 0 else (1 : Int32) <<< (fr &&& 31))) (if oI (sv N at_ nm) = (-1 : Int32) then (if oI (bw N (-1) 0 (fun _ => -1) at_ nm (if fr = (-1 : Int32) then 0 else (1 : Int32) <<< (fr &&& 31))) = (-1 : Int32) then nI at_ else oI (bw N (-1) 0 (fun _ => -1) at_ nm (if fr = (-1 : Int32) then 0 else (1 : Int32) <<< (fr &&& 31)))) else nI at_) (nI (t + 1)) (if oI (sv N at_ nm) = (-1 : Int32) then (if oI (bw N (-1) 0 (fun _ => -1) at_ nm (if fr = (-1 : Int32) then 0 else (1 : Int32) <<< (fr &&& 31))) = (-1 : Int32) then (2 : Int32) else 0) else (1 : Int32)) (nI (t + 1)) (sI h1 (x + 1037) t (nI at_)) else f0_trail_J173 K1 n x a4 (nI (t + 1)) 3 (sI h1 (x + 1037) t (nI at_)) := by
      rw [f0_trail_L58, if_neg k1, if_pos rfl, k2, x_gd, x_lt, k4, x_lt, cb, x_bp, cs, x_bp, x_lt, x_lt, nI_1]
      simp only [cI (show at_ < 32 by omega)]
      by_cases hb : bI sn at_ = false
      · rw [if_pos hb, if_pos hb]
      · rw [if_neg hb, if_neg hb, f0_trail_L58]
        rw [if_neg (show ¬ (3 : Int32) = 0 by decide), ite_self]
    have m1 : f11_walks_L13 K2 n m (nI nm) (fu' + 1) sn fr (nI at_) h2 = if bI sn at_ = false then (if oI (sv N at_ nm) = (-1 : Int32) then (if oI (bw N (-1) 0 (fun _ => -1) at_ nm (if fr = (-1 : Int32) then 0 else (1 : Int32) <<< (fr &&& 31))) = (-1 : Int32) then some ((2 : Int32), sI (sI h2 (m + 49) t (nI at_)) m 79 (nI (t + 1))) else f11_walks_L13 K2 n m (nI nm) fu' (sn ||| ((1 : Int32) <<< (nI at_ &&& 31))) (nI at_) (oI (bw N (-1) 0 (fun _ => -1) at_ nm (if fr = (-1 : Int32) then 0 else (1 : Int32) <<< (fr &&& 31)))) (sI (sI h2 (m + 49) t (nI at_)) m 79 (nI (t + 1)))) else some ((1 : Int32), sI (sI h2 (m + 49) t (nI at_)) m 79 (nI (t + 1)))) else some ((3 : Int32), sI (sI h2 (m + 49) t (nI at_)) m 79 (nI (t + 1))) := by
      rw [f11_walks_L13, h79, k3, x_gd, x_lt, k4, r79, x_lt, x_lt, nI_1, ms, x_bp, f11_walks_J83, mb, x_bp, mhas (by omega)]
      by_cases hb : bI sn at_ = false
      · rw [if_pos hb, if_pos (show (if bI sn at_ = true then (1 : Int32) else 0) = 0 by rw [hb]; rfl)]
      · have hb' : bI sn at_ = true := by simpa using hb
        rw [if_neg hb, if_neg (show ¬ (if bI sn at_ = true then (1 : Int32) else 0) = 0 by rw [if_pos hb']; exact b_10)]
    rw [c1, m1]
    clear c1 m1
    by_cases hb : bI sn at_ = false
    · rw [if_pos hb, if_pos hb]
      have st : ∀ (a b c w : Int32), ¬ w = 0 → f0_trail_L58 K1 n x (nI nm) a4 o (fu + 1) a b c (nI (t + 1)) w (nI (t + 1)) (sI h1 (x + 1037) t (nI at_)) = f0_trail_J173 K1 n x a4 (nI (t + 1)) w (sI h1 (x + 1037) t (nI at_)) := fun a b c w hw => by
        rw [f0_trail_L58, if_neg hw, ite_self]
      by_cases hs : oI (sv N at_ nm) = (-1 : Int32)
      · rw [if_pos hs, if_pos hs, if_pos hs, if_pos hs, if_pos hs]
        cases hq : bw N (-1) 0 (fun _ => -1) at_ nm (if fr = (-1 : Int32) then 0 else (1 : Int32) <<< (fr &&& 31)) with
        | none =>
          have z : oI none = (-1 : Int32) := rfl
          rw [if_pos z, if_pos z, if_pos z, if_pos z, if_pos z, st _ _ _ _ (by decide)]
          exact ⟨t + 1, 2, _, _, rfl, rfl, by omega, rI_e, p', q', rfl, ch⟩
        | some u =>
          have hu := bw_lt ok hq
          have z : ¬ oI (some u) = (-1 : Int32) := by
            show ¬ nI u = (-1 : Int32)
            rw [x_nm1 (by omega)]; exact fun hh => hh
          rw [if_neg z, if_neg z, if_neg z, if_neg z, if_neg z]
          have cn : ctn (bI (sn ||| ((1 : Int32) <<< (nI at_ &&& 31)))) 6 = t + 1 := by
            rw [ctn_add (f := bI sn) (a := at_) (by omega) hb (by rw [bI_or, bI_p (by omega)]; simp) (fun i _ hne => by rw [bI_or, bI_p (by omega)]; simp [Ne.symm hne]), hc]
          obtain ⟨s, e, h1', h2', g1, g2, g3, g4, g5, g6, g7, g8⟩ := ih (t + 1) (fu + 1) fu' (sn ||| ((1 : Int32) <<< (nI at_ &&& 31))) (nI at_) (nI (t + 1)) u _ _ (by omega) (by omega) (by omega) hu d1 d2 rI_e cn p'
          rw [if_neg (show ¬ nI at_ = (-1 : Int32) by rw [x_nm1 (by omega)]; exact fun hh => hh)] at g1
          exact ⟨s, e, h1', h2', g1, g2, g3, g4, g5, fun b k hb => (g6 b k hb).trans (q' b k hb), g7, ch.tr g8⟩
      · rw [if_neg hs, if_neg hs, if_neg hs, if_neg hs, if_neg hs, st _ _ _ _ (by decide)]
        exact ⟨t + 1, 1, _, _, rfl, rfl, by omega, rI_e, p', q', rfl, ch⟩
    · rw [if_neg hb, if_neg hb]
      exact ⟨t + 1, 3, _, _, rfl, rfl, by omega, rI_e, p', q', rfl, ch⟩
theorem cX.kp1 {c : Nat} {h h' : Hp} (v : cX c h) (e : h'.2 = h.2) : cX c h' := by
  unfold cX at v ⊢
  rw [e]; exact v
theorem both_trail (kx : KX K1 x) (hn : 5000 ≤ n) (v : XX x h1 m h2) : CC x m (f0_trail K1 n x a1 a2 a3 a4 h1) (f11_trail K2 n m a1 a2 a3 a4 h2) := by
  obtain ⟨g, vg⟩ := v.2.2.1
  have tr := v.1 0 (by omega)
  have c0 := vg.1.2.1 0 (by omega)
  by_cases hi : isI a1 (g_c g 0)
  · obtain ⟨i, li, rfl⟩ := isI_of (by omega) hi
    have ok := vg.1.2.2.1 i li
    have b0 := ok.1
    obtain ⟨g2, e1, vmn, ch1, xz⟩ := one_yes (K2 := K2) (n := n) v vg li
    have nn : g2.1 m 23 = nI (g_N g i 0) := vmn.2.2.1
    have cf := fun (b : Option (Int32 × Hp)) (F : Nat → Option (Int32 × Hp)) => c_one (n := n) (b := b) (F := F) kx tr vg li
    obtain ⟨-, ko, vn⟩ := cf none (fun _ => none)
    by_cases h2n : isI a2 (g_N g i 0)
    · obtain ⟨d, ld, rfl⟩ := isI_of (by omega) h2n
      rcases both_name (K1 := K1) (K2 := K2) (a := a3) (h1 := h1) (h2 := g2) hn with ⟨w, rfl, w1, w2, w3, w4⟩ | ⟨w3, w4⟩
      · obtain ⟨k1, k2, st, s1, s2, s3, s4, s5, s6, s7⟩ := both_begin (K2 := K2) (aw := -1) ok kx.1 hn v.2.1 (show x + 5 + 13 * i + 13 ≤ x + 210 by omega) ko vn vmn
        obtain ⟨r1, q1, q2, -⟩ := cbegin (K := K1) (n := n) (aw := -1) kx.1 hn v.2.1 (show x + 5 + 13 * i + 13 ≤ x + 210 by omega) ko vn
        obtain ⟨r2, q3, q4, -⟩ := mbegin (K := K2) (-1) (fun _ _ => 0) ok hn vmn
        obtain rfl : r1 = k1 := by rw [s1] at q1; exact (Option.some.inj q1).symm
        obtain rfl : r2 = k2 := by rw [s2] at q3; exact (Option.some.inj q3).symm
        have t1 : tE1 K1 (x + 210) r1 (x + 5 + 13 * i) (g_N g i) := ⟨q2.1.1, q2.2.2.1, q2.2.2.2.2.2.1⟩
        have t2 : tE2 m r2 i (g_N g i) := ⟨q4.1, q4.2.2.1, q4.2.2.2.2.2.1⟩
        have chw : ChM [49, 179] m r2 (sI r2 m 79 0) := ChM.F (by simp) ChM.rf
        obtain ⟨s, e, h1', h2', y1, y2, y3, y4, y5, y6, y7, y8⟩ := both_walk (K1 := K1) (K2 := K2) (x := x) (a4 := a4) ok hn (show x + 5 + 13 * i + 13 ≤ x + 210 by omega) w2 7 0 n n 0 (-1) 0 d r1 (sI r2 m 79 0) (by omega) (by omega) (by omega) ld t1 (t2.kp chw (by decide)) rI_e (ctn_0 6) (fun k hk => by omega)
        rw [if_pos rfl] at y1
        have cs : f0_trail K1 n x (nI i) (nI d) (nI w) a4 h1 = f0_trail_J173 K1 n x a4 (nI s) e h1' := by
          unfold f0_trail
          refine (cf _ _).1.trans ?_
          rw [c_hasN vn ok (by omega), if_pos ld, if_neg b_10, w3, x_bp, if_neg b_10, s1, x_bp]
          exact y1
        have ms : f11_trail K2 n m (nI i) (nI d) (nI w) a4 h2 = if a4 = (-1 : Int32) then some (nI s, h2') else if a4 = (20 : Int32) then some (e, h2') else if f11_in a4 0 (nI s - 1) = 0 then some (-1, h2') else gd (inb a4 8) <| some (h2'.1 (m + 49) a4.toNatClampNeg, h2') := by
          unfold f11_trail f11_walks
          rw [x_lt, e1, x_bd, if_neg b_10, m_isN nn ok (by omega), x_bp, if_pos ld, if_neg b_10, w4, x_bp, if_neg b_10, s2, x_bp, x_lt, y2, x_bd, y4, f11_trail_J56, y4]
          by_cases z : a4 = (-1 : Int32)
          · rw [if_pos z, if_pos z, if_pos z]
          · rw [if_neg z, if_neg z, if_neg z]
        have xe : XX x h1' m h2' := v.kp (R := 49 :: 179 :: RQ) (fun a k ha => ⟨(y6 a k (by omega)).trans (s6 a k (by omega)).1, by rw [y7]; exact (s6 a k (by omega)).2.2⟩) (s3.1.1.x.kp1 y7) ((ch1.up (by decide)).tr ((s7.up (by decide)).tr ((chw.up (by decide)).tr (y8.up (by decide))))) (by decide)
        rw [cs, ms]
        unfold f0_trail_J173
        by_cases z : a4 = (-1 : Int32)
        · exact ⟨nI s, h1', h2', by rw [if_pos z], by rw [if_pos z], xe⟩
        rw [if_neg z, if_neg z]
        by_cases z2 : a4 = (20 : Int32)
        · exact ⟨e, h1', h2', by rw [if_pos z2], by rw [if_pos z2], xe⟩
        rw [if_neg z2, if_neg z2]
        by_cases z3 : isI a4 s
        · obtain ⟨k, lk, rfl⟩ := isI_of (by omega) z3
          refine ⟨h2'.1 (m + 49) k, h1', h2', ?_, ?_, xe⟩
          · rw [if_neg (nI_pos (by omega)), if_neg (nI_ge lk (by omega)), x_in (by omega) (by omega), x_gd, x_cl (by omega), y5 k lk]
          · rw [m_inL (by omega) (by omega), if_pos lk, if_neg b_10, x_in (by omega) (by omega), x_gd, x_cl (by omega)]
        · refine ⟨-1, h1', h2', ?_, ?_, xe⟩
          · by_cases hneg : a4 < 0
            · rw [if_pos hneg]
            · obtain ⟨y, hy, rfl⟩ := nI_of hneg
              rw [if_neg hneg, if_pos (nI_le (Nat.le_of_not_lt fun hh => z3 (isI_nI (by omega) hh)) (by omega))]
          · by_cases hneg : a4 < 0
            · rw [m_inG hneg, if_pos rfl]
            · obtain ⟨y, hy, rfl⟩ := nI_of hneg
              rw [m_inL hy (by omega), if_neg (fun hh => z3 (isI_nI (by omega) hh)), if_pos rfl]
      · refine ⟨-1, h1, g2, ?_, ?_, xz⟩
        · unfold f0_trail
          refine (cf _ _).1.trans ?_
          rw [c_hasN vn ok (by omega), if_pos ld, if_neg b_10, w3, x_bp, if_pos rfl]
        · unfold f11_trail
          rw [x_lt, e1, x_bd, if_neg b_10, m_isN nn ok (by omega), x_bp, if_pos ld, if_neg b_10, w4, x_bp, if_pos rfl]
    · refine ⟨-1, h1, g2, ?_, ?_, xz⟩
      · unfold f0_trail
        refine (cf _ _).1.trans ?_
        rw [c_hasI vn ok h2n, if_pos rfl]
      · unfold f11_trail
        rw [x_lt, e1, x_bd, if_neg b_10, m_isNo nn ok h2n, x_bp, if_pos rfl]
  · obtain ⟨k1, e1, xz⟩ := one_no (K2 := K2) (n := n) v vg hi
    refine ⟨-1, h1, k1, ?_, ?_, xz⟩
    · unfold f0_trail
      exact c_oneNo vg hi
    · unfold f11_trail
      rw [x_lt, e1, x_bd, if_pos rfl]
end Trail
