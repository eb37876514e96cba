/-! ===== levels are short ===== -/
theorem kyN_inj {M K M' K' : Nat} (hK : K < 2 ^ 49) (hK' : K' < 2 ^ 49) (h : kyN M K = kyN M' K') : M = M' ∧ K = K' := by
  unfold kyN at h
  omega
theorem nd_len : ∀ (L T : List Nat), L.Nodup → (∀ x, x ∈ L → x ∈ T) → L.length ≤ T.length := by
  intro L
  induction L with
  | nil => intro T _ _; simp
  | cons x L ih =>
    intro T hn h
    rw [List.nodup_cons] at hn
    have hx : x ∈ T := h x (by simp)
    have h1 := ih (T.erase x) hn.2 (fun y hy => (List.mem_erase_of_ne (fun z => hn.1 (by rw [← z]; exact hy))).mpr (h y (by simp [hy])))
    rw [List.length_erase_of_mem hx] at h1
    have : 0 < T.length := List.length_pos_of_mem hx
    simp only [List.length_cons]
    omega
theorem lenB_flat : ∀ B : List (List Nat), lenB B = B.flatten.length := by
  intro B
  induction B with
  | nil => rfl
  | cons x B ih => simp only [lenB, List.flatten_cons, List.length_append, ih]
theorem VNd.b {N M K : Nat} (h : VNd N M K) : M < 2 ^ 14 ∧ K < 2 ^ 49 ∧ kyN M K < 2 ^ 63 ∧ 2 ≤ N ∧ N ≤ 8 := by
  have h8 : N ≤ 8 := h.2.2.2.1
  have h2 : 2 ≤ N := h.2.2.1
  have h1 : 2 ^ (2 * (N - 1)) ≤ 2 ^ 14 := Nat.pow_le_pow_right (by omega) (by omega)
  have h3 := pow57 h8
  have h4 := h.1
  have h5 := h.2.1
  unfold kyN
  omega
/-- an entry of level d -/
def EnV (N : Nat) (B : Nat → List (List Nat)) (d : Nat) (x : En) : Prop := VNd N x.1.1 x.1.2 ∧ inB (B d) (kyN x.1.1 x.1.2) ∧ x.2.2.length = d ∧ ∀ a, a ∈ x.2.2 → a < 1024
def KB (N : Nat) (B : Nat → List (List Nat)) (d : Nat) (L : List En) : Prop := ndK L ∧ ∀ x, x ∈ L → EnV N B d x
theorem ky_nd : ∀ L : List En, ndK L → (∀ x, x ∈ L → x.1.2 < 2 ^ 49) → (L.map (fun x => kyN x.1.1 x.1.2)).Nodup := by
  intro L
  induction L with
  | nil => intro _ _; simp
  | cons x L ih =>
    intro hn hb
    unfold ndK at hn
    rw [List.map_cons, List.nodup_cons] at hn
    rw [List.map_cons, List.nodup_cons]
    refine ⟨fun z => ?_, ih hn.2 (fun y hy => hb y (by simp [hy]))⟩
    obtain ⟨y, hy, hk⟩ := List.mem_map.mp z
    obtain ⟨k1, k2⟩ := kyN_inj (hb y (by simp [hy])) (hb x (by simp)) hk
    exact hn.1 (List.mem_map.mpr ⟨y, hy, Prod.ext k1 k2⟩)
theorem KB.len {N : Nat} {B : Nat → List (List Nat)} {d : Nat} {L : List En} (h : KB N B d L) : L.length ≤ lenB (B d) := by
  have h1 := nd_len _ (B d).flatten (ky_nd L h.1 (fun x hx => (h.2 x hx).1.b.2.1)) (fun y hy => by
    obtain ⟨x, hx, rfl⟩ := List.mem_map.mp hy
    obtain ⟨b, h2, h3⟩ := (h.2 x hx).2.1
    exact List.mem_flatten.mpr ⟨b, h2, h3⟩)
  rw [List.length_map] at h1
  rw [lenB_flat]
  exact h1
theorem bmp_V {N : Nat} {B : Nat → List (List Nat)} {d : Nat} {e x : En} (h : EnV N B d x) : EnV N B d (bmp e x) := by
  unfold bmp
  split
  · exact h
  · exact h
theorem KB.in1 {N : Nat} {B : Nat → List (List Nat)} {d : Nat} {L : List En} {e : En} (h : KB N B d L) (he : EnV N B d e) : KB N B d (ins L e) := by
  refine ⟨ins_nd h.1, fun x hx => ?_⟩
  unfold ins at hx
  by_cases hk : hasK L e.1 = true
  · rw [if_pos hk] at hx
    obtain ⟨y, hy, rfl⟩ := List.mem_map.mp hx
    exact bmp_V (h.2 y hy)
  · rw [if_neg hk] at hx
    rcases List.mem_append.mp hx with z | z
    · exact h.2 x z
    · rw [List.mem_singleton.mp z]; exact he
theorem mem_kD {N M K x sd : Nat} {t : Nat × Nat × Nat} : ∀ n, t ∈ kD N M K x sd n → ∃ d, d < n ∧ kidB N K x sd d = false ∧ t = (100 * x + 10 * sd + d, kidM N M K x sd d, kidK N K x sd d) := by
  intro n
  induction n with
  | zero => intro h; exact absurd h (by simp [kD])
  | succ n ih =>
    intro h
    simp only [kD] at h
    rcases List.mem_append.mp h with z | z
    · obtain ⟨d, h1, h2⟩ := ih z
      exact ⟨d, by omega, h2⟩
    · unfold kid1 at z
      by_cases hb : kidB N K x sd n = true
      · rw [if_pos hb] at z; exact absurd z (by simp)
      · rw [if_neg hb] at z
        exact ⟨n, by omega, by revert hb; cases kidB N K x sd n <;> simp, List.mem_singleton.mp z⟩
theorem mem_kS {N M K x : Nat} {t : Nat × Nat × Nat} : ∀ n, t ∈ kS N M K x n → ∃ sd, sd < n ∧ t ∈ kD N M K x sd (mosK N K + 1) := by
  intro n
  induction n with
  | zero => intro h; exact absurd h (by simp [kS])
  | succ n ih =>
    intro h
    simp only [kS] at h
    rcases List.mem_append.mp h with z | z
    · obtain ⟨d, h1, h2⟩ := ih z
      exact ⟨d, by omega, h2⟩
    · exact ⟨n, by omega, z⟩
theorem mem_kX {N M K : Nat} {t : Nat × Nat × Nat} : ∀ n, t ∈ kX N M K n → ∃ x, x < n ∧ t ∈ kS N M K (x + 1) 2 := by
  intro n
  induction n with
  | zero => intro h; exact absurd h (by simp [kX])
  | succ n ih =>
    intro h
    simp only [kX] at h
    rcases List.mem_append.mp h with z | z
    · obtain ⟨d, h1, h2⟩ := ih z
      exact ⟨d, by omega, h2⟩
    · exact ⟨n, by omega, z⟩
theorem mem_kids {N M K : Nat} {t : Nat × Nat × Nat} (h : t ∈ kidsL N M K) : ∃ x sd d, 1 ≤ x ∧ x < pW (unP N K) ∧ sd < 2 ∧ d ≤ mosK N K ∧ kidB N K x sd d = false ∧ t = (100 * x + 10 * sd + d, kidM N M K x sd d, kidK N K x sd d) := by
  obtain ⟨x, h1, h2⟩ := mem_kX _ h
  obtain ⟨sd, h3, h4⟩ := mem_kS _ h2
  obtain ⟨d, h5, h6, h7⟩ := mem_kD _ h4
  exact ⟨x + 1, sd, d, by omega, by omega, h3, by omega, h6, h7⟩
theorem mosK_8 {N M K : Nat} (h : VNd N M K) : mosK N K ≤ 8 := Nat.le_trans (mosN_le (P := unP N K) _) h.2.2.2.1
theorem EnV.kid {N : Nat} {B : Nat → List (List Nat)} {d : Nat} {e : En} (h : EnV N B d e) (hT : Told N B) (hd : d < 3) {t : Nat × Nat × Nat} (ht : t ∈ kidsL N e.1.1 e.1.2) : EnV N B (d + 1) (mkE e t) := by
  obtain ⟨h1, h2, h3, h4⟩ := h
  have hb := h1.b
  have hc := chk_sp (hT.2.1 d hd) h2 t (by
    have e1 : kyN e.1.1 e.1.2 / 2 ^ 49 = e.1.1 := by unfold kyN; omega
    have e2 : kyN e.1.1 e.1.2 % 2 ^ 49 = e.1.2 := by unfold kyN; omega
    rw [e1, e2]; exact ht)
  obtain ⟨x, sd, dd, q1, q2, q3, q4, q5, q6⟩ := mem_kids ht
  have hm := mosK_8 h1
  have hw : pW (unP N e.1.2) ≤ 8 := h1.2.2.2.2.2.1
  refine ⟨?_, hc, ?_, fun a ha => ?_⟩
  · rw [q6]; exact kid_V h1 q1 q2
  · show (e.2.2 ++ [t.1]).length = d + 1
    rw [List.length_append, h3]; rfl
  · have ha : a ∈ e.2.2 ++ [t.1] := ha
    rcases List.mem_append.mp ha with z | z
    · exact h4 a z
    · rw [List.mem_singleton.mp z, q6]
      show 100 * x + 10 * sd + dd < 1024
      omega
theorem root_V {N : Nat} {B : Nat → List (List Nat)} (h : 2 ≤ N ∧ N ≤ 8) (hT : Told N B) : EnV N B 0 (rootE N) := by
  have hV := flat_V h
  refine ⟨⟨Nat.two_pow_pos _, pcN_lt N (fun p hp => (hV.d p hp).2.2), (un_E hV).V hV⟩, hT.1, rfl, fun a ha => absurd ha (by simp [rootE])⟩
theorem KB.insA {N : Nat} {B : Nat → List (List Nat)} {d : Nat} : ∀ (T L : List En), KB N B d L → (∀ x, x ∈ T → EnV N B d x) → KB N B d (insA L T) := by
  intro T
  induction T with
  | nil => intro L h _; exact h
  | cons e T ih => intro L h hT; exact ih _ (h.in1 (hT e (by simp))) (fun x hx => hT x (by simp [hx]))
theorem flat_EnV {N : Nat} {B : Nat → List (List Nat)} {d : Nat} {L : List En} (hL : ∀ x, x ∈ L → EnV N B d x) (hT : Told N B) (hd : d < 3) : ∀ x, x ∈ L.flatMap (kidsE N) → EnV N B (d + 1) x := by
  intro x hx
  obtain ⟨e, he, hx⟩ := List.mem_flatMap.mp hx
  obtain ⟨t, ht, rfl⟩ := List.mem_map.mp hx
  exact (hL e he).kid hT hd ht
theorem Lv_KB {N : Nat} {B : Nat → List (List Nat)} (h : 2 ≤ N ∧ N ≤ 8) (hT : Told N B) : ∀ d, d ≤ 3 → KB N B d (Lv N d) := by
  intro d
  induction d with
  | zero => intro _; exact ⟨Lv_nd N 0, fun x hx => by rw [List.mem_singleton.mp hx]; exact root_V h hT⟩
  | succ d ih =>
    intro hd
    exact KB.insA _ [] ⟨by simp [ndK], fun x hx => absurd hx (by simp)⟩ (flat_EnV (ih (by omega)).2 hT (by omega))
/-! the way in one number -/
def cdA (L : List Nat) : Nat := L.foldl (fun c a => c * 1024 + a) 0
theorem cdA_snoc (L : List Nat) (a : Nat) : cdA (L ++ [a]) = cdA L * 1024 + a := by unfold cdA; rw [List.foldl_append]; rfl
theorem cdA_go : ∀ (L : List Nat) (c : Nat), (∀ a, a ∈ L → a < 1024) → L.foldl (fun c a => c * 1024 + a) c < (c + 1) * 1024 ^ L.length := by
  intro L
  induction L with
  | nil => intro c _; simp
  | cons a L ih =>
    intro c h
    have h1 := ih (c * 1024 + a) (fun x hx => h x (by simp [hx]))
    have h2 := h a (by simp)
    simp only [List.foldl_cons, List.length_cons]
    refine Nat.lt_of_lt_of_le h1 ?_
    rw [Nat.pow_succ, Nat.mul_comm (1024 ^ L.length) 1024, ← Nat.mul_assoc]
    exact Nat.mul_le_mul_right _ (by omega)
theorem cdA_lt {L : List Nat} (h : ∀ a, a ∈ L → a < 1024) : cdA L < 1024 ^ L.length := by
  have := cdA_go L 0 h
  simpa [cdA] using this
/-! entries by their places -/
theorem gD_el {α : Type} {L : List α} {i : Nat} {d : α} (h : i < L.length) : L.getD i d = L[i] := by simp [List.getD, h]
def gE (L : List En) (i : Nat) : En := L.getD i ((0, 0), 0, [])
theorem gE_mem {L : List En} {i : Nat} (h : i < L.length) : gE L i ∈ L := by
  unfold gE
  rw [gD_el h]
  exact List.getElem_mem h
theorem gE_of {L : List En} {x : En} (h : x ∈ L) : ∃ i, i < L.length ∧ gE L i = x := by
  obtain ⟨i, hi, e⟩ := List.mem_iff_getElem.mp h
  exact ⟨i, hi, by unfold gE; rw [gD_el hi]; exact e⟩
theorem gE_l {L : List En} {e : En} {i : Nat} (h : i < L.length) : gE (L ++ [e]) i = gE L i := by
  unfold gE
  rw [gD_el h, gD_el (by simp; omega), List.getElem_append_left h]
theorem gE_r {L : List En} {e : En} : gE (L ++ [e]) L.length = e := by
  unfold gE
  rw [gD_el (by simp)]
  simp
theorem gE_bmp {L : List En} {e : En} {i : Nat} (h : i < L.length) : gE (L.map (bmp e)) i = bmp e (gE L i) := by
  unfold gE
  rw [gD_el h, gD_el (by simpa using h), List.getElem_map]
theorem gE_inj {L : List En} (hn : ndK L) {i j : Nat} (hi : i < L.length) (hj : j < L.length) (h : (gE L i).1 = (gE L j).1) : i = j := by
  unfold gE at h
  rw [gD_el hi, gD_el hj] at h
  have h1 : (L.map (fun x => x.1))[i]'(by simpa using hi) = (L.map (fun x => x.1))[j]'(by simpa using hj) := by simpa using h
  exact (List.getElem_inj (h₀ := by simpa using hi) (h₁ := by simpa using hj) hn).mp h1
/-! empty slots -/
def emp (g : Nat → Int32) : Nat → Nat
  | 0 => 0
  | n + 1 => emp g n + (if g n = -1 then 1 else 0)
theorem emp_ex {g : Nat → Int32} : ∀ n, 0 < emp g n → ∃ q, q < n ∧ g q = -1 := by
  intro n
  induction n with
  | zero => intro h; exact absurd h (by simp [emp])
  | succ n ih =>
    intro h
    simp only [emp] at h
    by_cases hz : g n = -1
    · exact ⟨n, by omega, hz⟩
    · rw [if_neg hz] at h
      obtain ⟨q, h1, h2⟩ := ih (by omega)
      exact ⟨q, by omega, h2⟩
theorem emp_congr {g g' : Nat → Int32} : ∀ n, (∀ q, q < n → g' q = g q) → emp g' n = emp g n := by
  intro n
  induction n with
  | zero => intro _; rfl
  | succ n ih =>
    intro h
    simp only [emp]
    rw [ih (fun q hq => h q (by omega)), h n (by omega)]
theorem emp_up {g g' : Nat → Int32} {q0 : Nat} (h0 : g q0 = -1) (h1 : g' q0 ≠ -1) : ∀ n, q0 < n → (∀ q, q < n → q ≠ q0 → g' q = g q) → emp g' n + 1 = emp g n := by
  intro n
  induction n with
  | zero => intro h _; omega
  | succ n ih =>
    intro hq h
    simp only [emp]
    by_cases hz : q0 = n
    · subst hz
      rw [if_pos h0, if_neg h1, emp_congr q0 (fun q hq => h q (by omega) (by omega))]
    · rw [h n (by omega) (fun z => hz z.symm)]
      have := ih (by omega) (fun q hq hne => h q (by omega) hne)
      omega
theorem emp_all {g : Nat → Int32} : ∀ n, (∀ q, q < n → g q = -1) → emp g n = n := by
  intro n
  induction n with
  | zero => intro _; rfl
  | succ n ih =>
    intro h
    simp only [emp]
    rw [ih (fun q hq => h q (by omega)), if_pos (h n (by omega))]
/-! the slot where the search begins -/
def hsI (x : Int64) : Int32 := (((x * -7046029254386353131).toUInt64 >>> ((53 : Int32).toInt64.toUInt64 &&& Int64.toUInt64 63)).toInt64).toInt32
def hsN (x : Int64) : Nat := (hsI x).toNatClampNeg
theorem hs_sp (x : Int64) : hsN x < 2048 ∧ hsI x = nI (hsN x) := by
  have h : ∃ k, k < 2048 ∧ hsI x = nI k := by
    unfold hsI
    generalize x * -7046029254386353131 = z
    have e53 : ((53 : Int32).toInt64.toUInt64 &&& Int64.toUInt64 63) = UInt64.ofNat 53 := by decide +kernel
    rw [e53]
    refine ⟨z.toUInt64.toNat / 2 ^ 53, ?_, ?_⟩
    · have := z.toUInt64.toNat_lt
      omega
    · have e : (z.toUInt64 >>> UInt64.ofNat 53).toInt64 = lN (z.toUInt64.toNat / 2 ^ 53) := by
        apply Int64.toBitVec_inj.mp
        apply BitVec.eq_of_toNat_eq
        show (z.toUInt64 >>> UInt64.ofNat 53).toNat = (BitVec.ofNat 64 _).toNat
        have h1 : (UInt64.ofNat 53).toNat = 53 := rfl
        rw [UInt64.toNat_shiftRight, h1, Nat.shiftRight_eq_div_pow, BitVec.toNat_ofNat]
        have := z.toUInt64.toNat_lt
        rw [show 53 % 64 = 53 from rfl]
        exact (Nat.mod_eq_of_lt (by omega)).symm
      rw [e, lN_i]
  obtain ⟨k, h1, h2⟩ := h
  have : hsN x = k := by unfold hsN; rw [h2]; exact nI_clamp (by omega)
  rw [this]
  exact ⟨h1, h2⟩
