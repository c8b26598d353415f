/-! plain rows: what is read behind what was written; numbers; the forms of the functions -/
theorem rI_e {ha : Hp} {aa ka : Nat} {xa : Int32} : (sI ha aa ka xa).1 aa ka = xa := by simp [sI]
theorem rI_n {ha : Hp} {aa ka ab kb : Nat} {xa : Int32} (ne : ab ≠ aa ∨ kb ≠ ka) : (sI ha aa ka xa).1 ab kb = ha.1 ab kb := by
  simp only [sI]; rw [if_neg]; omega
theorem rI_l {ha : Hp} {aa ka : Nat} {xa : Int32} : (sI ha aa ka xa).2.1 = ha.2.1 := rfl
theorem rI_r {ha : Hp} {aa ka : Nat} {xa : Int32} : (sI ha aa ka xa).2.2 = ha.2.2 := rfl
theorem rL_e {ha : Hp} {aa ka : Nat} {xa : Int64} : (sL ha aa ka xa).2.1 aa ka = xa := by simp [sL]
theorem rL_n {ha : Hp} {aa ka ab kb : Nat} {xa : Int64} (ne : ab ≠ aa ∨ kb ≠ ka) : (sL ha aa ka xa).2.1 ab kb = ha.2.1 ab kb := by
  simp only [sL]; rw [if_neg]; omega
theorem rL_i {ha : Hp} {aa ka : Nat} {xa : Int64} : (sL ha aa ka xa).1 = ha.1 := rfl
theorem rL_r {ha : Hp} {aa ka : Nat} {xa : Int64} : (sL ha aa ka xa).2.2 = ha.2.2 := rfl
theorem rR_e {ha : Hp} {aa ka : Nat} {xa : Option Nat} : (sR ha aa ka xa).2.2 aa ka = xa := by simp [sR]
theorem rR_n {ha : Hp} {aa ka ab kb : Nat} {xa : Option Nat} (ne : ab ≠ aa ∨ kb ≠ ka) : (sR ha aa ka xa).2.2 ab kb = ha.2.2 ab kb := by
  simp only [sR]; rw [if_neg]; omega
theorem rR_i {ha : Hp} {aa ka : Nat} {xa : Option Nat} : (sR ha aa ka xa).1 = ha.1 := rfl
theorem rR_l {ha : Hp} {aa ka : Nat} {xa : Option Nat} : (sR ha aa ka xa).2.1 = ha.2.1 := rfl
theorem rC_e {ha : Hp} {aa ab na kb : Nat} (hk : kb < na) : (cpI ha aa ab na).1 ab kb = ha.1 aa kb := by simp [cpI, hk]
theorem rC_n {ha : Hp} {aa ab na ac kb : Nat} (ne : ac ≠ ab ∨ na ≤ kb) : (cpI ha aa ab na).1 ac kb = ha.1 ac kb := by
  simp only [cpI]; rw [if_neg]; omega
theorem rC_l {ha : Hp} {aa ab na : Nat} : (cpI ha aa ab na).2.1 = ha.2.1 := rfl
theorem rC_r {ha : Hp} {aa ab na : Nat} : (cpI ha aa ab na).2.2 = ha.2.2 := rfl
/-- the whole row behind a write -/
theorem rw_I {ha : Hp} {aa ka : Nat} {xa : Int32} : (sI ha aa ka xa).1 aa = upd (ha.1 aa) ka xa := by
  funext jb; by_cases hj : jb = ka <;> simp [sI, upd, hj]
theorem rw_In {ha : Hp} {aa ka ab : Nat} {xa : Int32} (ne : ab ≠ aa) : (sI ha aa ka xa).1 ab = ha.1 ab := by
  funext jb; exact rI_n (Or.inl ne)
theorem rw_L {ha : Hp} {aa ka : Nat} {xa : Int64} : (sL ha aa ka xa).2.1 aa = vp_updL (ha.2.1 aa) ka xa := by
  funext jb; by_cases hj : jb = ka <;> simp [sL, vp_updL, hj]
theorem rw_Ln {ha : Hp} {aa ka ab : Nat} {xa : Int64} (ne : ab ≠ aa) : (sL ha aa ka xa).2.1 ab = ha.2.1 ab := by
  funext jb; exact rL_n (Or.inl ne)
theorem x_lt {α β : Type} (xa : α) (kf : α → β) : lt xa kf = kf xa := rfl
theorem x_gd {α : Type} (oa1 : Option α) : gd true oa1 = oa1 := rfl
theorem x_bp {α β : Type} (xa : α) (kf : α → Option β) : bp (some xa) kf = kf xa := rfl
theorem x_bd {α β : Type} (xa : α) (ha : Hp) (kf : α → Hp → Option β) : bd (some (xa, ha)) kf = kf xa ha := rfl
theorem x_ob {β : Type} {Ka : Ly} {ci ea : Nat} {kf : Nat → Option β} (hk : Ka ea = some (.inl ci)) : ob (some ea) Ka ci kf = kf ea := by
  simp [ob, isO, hk, gd]
theorem x_oa {β : Type} {Ka : Ly} {ta na ea : Nat} {kf : Nat → Nat → Option β} (hk : Ka ea = some (.inr (ta, na))) : oa (some ea) Ka ta kf = kf ea na := by
  simp [oa, hk, gd]
theorem x_nn {β : Type} (aa : β) (kf : Nat → β) : nl none aa kf = aa := rfl
theorem x_ns {β : Type} (aa : β) (kf : Nat → β) (ea : Nat) : nl (some ea) aa kf = kf ea := rfl
theorem x_iO {Ka : Ly} {ea ci : Nat} (hk : Ka ea = some (.inl ci)) : isO Ka ea ci = true := by simp [isO, hk]
theorem x_in {ka na : Nat} (hk : ka < na) (hn : na < 2147483648) : inb (nI ka) na = true := by
  have := nI_in hk hn
  simp only [inb]; exact decide_eq_true this
theorem x_cl {ka : Nat} (hk : ka < 2147483648) : (nI ka).toNatClampNeg = ka := nI_clamp hk
theorem x_le {aa ab : Nat} (h1a : aa < 2147483648) (h2a : ab < 2147483648) : (nI aa ≤ nI ab) = (aa ≤ ab) := propext (nI_leI h1a h2a)
theorem x_lt' {aa ab : Nat} (h1a : aa < 2147483648) (h2a : ab < 2147483648) : (nI aa < nI ab) = (aa < ab) := propext (nI_ltI h1a h2a)
theorem x_eq {aa ab : Nat} (h1a : aa < 2147483648) (h2a : ab < 2147483648) : (nI aa = nI ab) = (aa = ab) := propext (nI_eq h1a h2a)
theorem x_nm1 {aa : Nat} (h1a : aa < 2147483648) : (nI aa = -1) = False := by
  refine eq_false fun hh => ?_
  have h2a := congrArg Int32.toInt hh
  rw [nI_toInt h1a] at h2a
  have h3a : Int32.toInt (-1) = -1 := rfl
  omega
theorem x_n2 {aa : Nat} (h1a : aa < 2147483648) : (nI aa = -2) = False := by
  refine eq_false fun hh => ?_
  have h2a := congrArg Int32.toInt hh
  rw [nI_toInt h1a] at h2a
  have h3a : Int32.toInt (-2) = -2 := rfl
  omega
theorem x_lt0 {aa : Nat} (h1a : aa < 2147483648) : (nI aa < 0) = False := eq_false (nI_pos h1a)
theorem x_pre {aa : Nat} : nI (aa + 1) + -1 = nI aa := pk_m1 aa
theorem x_sub1 {aa : Nat} (h1a : 1 ≤ aa) : nI aa - 1 = nI (aa - 1) := by
  obtain ⟨bb, rfl⟩ : ∃ bb, aa = bb + 1 := ⟨aa - 1, by omega⟩
  exact nI_pred bb
theorem x_dec {aa : Nat} (h1a : 1 ≤ aa) : nI aa + -1 = nI (aa - 1) := by
  obtain ⟨bb, rfl⟩ : ∃ bb, aa = bb + 1 := ⟨aa - 1, by omega⟩
  exact pk_m1 bb
theorem l_0 : (0 : Int32) = nI 0 := rfl
theorem l_1 : (1 : Int32) = nI 1 := rfl
theorem l_2 : (2 : Int32) = nI 2 := rfl
theorem l_3 : (3 : Int32) = nI 3 := rfl
theorem l_4 : (4 : Int32) = nI 4 := rfl
theorem l_5 : (5 : Int32) = nI 5 := rfl
theorem l_6 : (6 : Int32) = nI 6 := rfl
theorem l_7 : (7 : Int32) = nI 7 := rfl
theorem l_8 : (8 : Int32) = nI 8 := rfl
theorem l_10 : (10 : Int32) = nI 10 := rfl
theorem l_11 : (11 : Int32) = nI 11 := rfl
theorem l_12 : (12 : Int32) = nI 12 := rfl
theorem l_15 : (15 : Int32) = nI 15 := rfl
theorem l_16 : (16 : Int32) = nI 16 := rfl
theorem l_20 : (20 : Int32) = nI 20 := rfl
theorem l_27 : (27 : Int32) = nI 27 := rfl
theorem l_36 : (36 : Int32) = nI 36 := rfl
theorem l_40 : (40 : Int32) = nI 40 := rfl
theorem l_56 : (56 : Int32) = nI 56 := rfl
theorem l_60 : (60 : Int32) = nI 60 := rfl
theorem l_64 : (64 : Int32) = nI 64 := rfl
theorem l_99 : (99 : Int32) = nI 99 := rfl
theorem l_100 : (100 : Int32) = nI 100 := rfl
theorem l_104 : (104 : Int32) = nI 104 := rfl
theorem l_122 : (122 : Int32) = nI 122 := rfl
theorem l_360 : (360 : Int32) = nI 360 := rfl
theorem l_580 : (580 : Int32) = nI 580 := rfl
theorem l_600 : (600 : Int32) = nI 600 := rfl
theorem l_t1 : (if True then (1 : Int32) else 0) = 1 := rfl
theorem b_10 : ¬ ((1 : Int32) = 0) := by decide
/-! looking for the first in a list -/
def fs {α : Type} (pr : α → Bool) : List α → Option (List α × α × List α)
  | [] => none
  | aa :: la => if pr aa then some ([], aa, la) else (fs pr la).map (fun rr => (aa :: rr.1, rr.2.1, rr.2.2))
theorem fs_some {α : Type} {pr : α → Bool} {la : List α} {ua : List α} {aa : α} {va : List α} (hf : fs pr la = some (ua, aa, va)) : la = ua ++ aa :: va ∧ pr aa = true ∧ ∀ bb ∈ ua, pr bb = false := by
  induction la generalizing ua with
  | nil => cases hf
  | cons bb la ih =>
    by_cases hp : pr bb = true
    · simp only [fs, hp, if_true, Option.some.injEq, Prod.mk.injEq] at hf
      obtain ⟨rfl, rfl, rfl⟩ := hf
      exact ⟨rfl, hp, fun _ hx => by cases hx⟩
    · have hp : pr bb = false := by simpa using hp
      simp only [fs, hp] at hf
      cases hq : fs pr la with
      | none => simp [hq] at hf
      | some rr =>
        obtain ⟨r1, r2, r3⟩ := rr
        simp only [hq, Option.map_some, Option.some.injEq, Prod.mk.injEq, Bool.false_eq_true, if_false] at hf
        obtain ⟨rfl, rfl, rfl⟩ := hf
        obtain ⟨e1, e2, e3⟩ := ih hq
        refine ⟨by rw [e1]; rfl, e2, fun cc hc => ?_⟩
        rcases List.mem_cons.mp hc with rfl | hc
        · exact hp
        · exact e3 cc hc
theorem fs_none {α : Type} {pr : α → Bool} {la : List α} (hf : fs pr la = none) : ∀ bb ∈ la, pr bb = false := by
  induction la with
  | nil => exact fun _ hx => by cases hx
  | cons bb la ih =>
    by_cases hp : pr bb = true
    · simp [fs, hp] at hf
    · have hp : pr bb = false := by simpa using hp
      simp only [fs, hp, Bool.false_eq_true, if_false, Option.map_eq_none_iff] at hf
      intro cc hc
      rcases List.mem_cons.mp hc with rfl | hc
      · exact hp
      · exact ih hf cc hc
theorem fs_none_of {α : Type} {pr : α → Bool} {la : List α} (hf : ∀ bb ∈ la, pr bb = false) : fs pr la = none := by
  cases hq : fs pr la with
  | none => rfl
  | some rr =>
    obtain ⟨r1, r2, r3⟩ := rr
    obtain ⟨e1, e2, e3⟩ := fs_some hq
    have := hf r2 (by rw [e1]; simp)
    rw [e2] at this; cases this
theorem fs_filter {α : Type} {pr qr : α → Bool} (hpq : ∀ aa, pr aa = true → qr aa = true) (la : List α) : fs pr (la.filter qr) = (fs pr la).map (fun rr => (rr.1.filter qr, rr.2.1, rr.2.2.filter qr)) := by
  induction la with
  | nil => rfl
  | cons bb la ih =>
    by_cases hq : qr bb = true
    · by_cases hp : pr bb = true
      · simp [fs, hq, hp]
      · simp only [List.filter_cons, hq, if_true, fs, hp, if_false, ih]
        cases fs pr la <;> simp [hq]
    · have hp : ¬ pr bb = true := fun hh => hq (hpq bb hh)
      rw [show (bb :: la).filter qr = la.filter qr by simp [hq], ih]
      simp only [fs, hp, if_false]
      cases fs pr la <;> simp [hq]
theorem fs_at {α : Type} {pr : α → Bool} {ua va : List α} {aa : α} (h1a : pr aa = true) (h2a : ∀ bb ∈ ua, pr bb = false) : fs pr (ua ++ aa :: va) = some (ua, aa, va) := by
  induction ua with
  | nil => simp [fs, h1a]
  | cons bb ua ih =>
    have h3a := h2a bb (by simp)
    have h4a := ih (fun cc hc => h2a cc (by simp [hc]))
    simp [fs, h3a, h4a]
theorem ge_mid {α : Type} {ua va : List α} {aa : α} : (ua ++ aa :: va)[ua.length]? = some aa := by simp
