/-! ===== digest ===== -/
def dgC (st : ST) : Nat → Int64
  | 0 => 17
  | i + 1 => 31 * dgC st i + Int32.toInt64 (counts st (nI i))
def dgD (st : ST) (r : Nat) (h : Int64) : Nat → Int64
  | 0 => h
  | k + 1 => 31 * dgD st r h k + Int32.toInt64 (vwl st.1 (nI r) (nI k) st.2.1)
def dgR (st : ST) (h : Int64) : Nat → Int64
  | 0 => h
  | r + 1 => dgD st r (dgR st h r) 40
def bT2 (o : Option (Nat × Nat)) (w : Int32) : Int64 := match o with
  | none => -3
  | some t => bestT (some t) w
def dgK (st : ST) (r : Nat) (h : Int64) : Nat → Int64
  | 0 => h
  | k + 1 => 31 * (31 * dgK st r h k + bT2 (Dp (cR st r k) (nR st r) 2 0) 0) + bT2 (Dp (cR st r k) (nR st r) 2 0) 1
def dgS (st : ST) (h : Int64) : Nat → Int64
  | 0 => h
  | r + 1 => dgK st r (dgS st h r) 4
def digestA (st : ST) : Int64 := 31 * dgS st (dgR st (dgC st 8) 4) 4 + Int32.toInt64 (faults st)
section
variable {G : GC} {d : Nat} {P : PT} {I : MI} {J : MJ}
theorem dg_c {st : ST} (hR : RC st I J) (hq : Go G (fr G m_LB_digest (d + 6) P) 33 [some (.ref 0), some (.long (dgC st 8)), none, some (.int 0), none, none] [] I J) : ∀ (r i : Nat), i + r = 8 → Go G (fr G m_LB_digest (d + 6) P) 6 [some (.ref 0), some (.long (dgC st i)), none, some (.int (nI i)), none, none] [] I J := by
  intro r
  induction r with
  | zero =>
    intro i hi
    obtain rfl : i = 8 := by omega
    have h7 : (7 : Int32) < nI 8 := by decide
    exact w_LB_digest_6 (fun _ => hq) (fun c => absurd h7 c)
  | succ r ih =>
    intro i hi
    have h7 : ¬ (7 : Int32) < nI i := nI_nlt (a := 7) (b := i) (by omega) (by omega)
    refine w_LB_digest_6 (fun c => absurd c h7) (fun _ => cl_count hR (w_LB_digest_22 ?_))
    rw [nI_1]
    exact ih (i + 1) (by omega)
theorem dg_d {st : ST} (hR : RC st I J) {r : Nat} (hr : r < 4) {h : Int64} (hq : Go G (fr G m_LB_digest (d + 6) P) 33 [some (.ref 0), some (.long (dgD st r h 40)), none, some (.int (nI r + 1)), none, none] [] I J) : ∀ (m k : Nat), k + m = 40 → Go G (fr G m_LB_digest (d + 6) P) 41 [some (.ref 0), some (.long (dgD st r h k)), none, some (.int (nI r)), some (.int (nI k)), none] [] I J := by
  intro m
  induction m with
  | zero =>
    intro k hk
    obtain rfl : k = 40 := by omega
    have hle : (40 : Int32) ≤ nI 40 := by decide
    exact w_LB_digest_41 (fun _ => hq) (fun c => absurd hle c) (fun c => absurd hle c) (fun c => absurd hle c)
  | succ m ih =>
    intro k hk
    have hc : ¬ (40 : Int32) ≤ nI k := nI_ge (a := k) (b := 40) (by omega) (by omega)
    refine w_LB_digest_41 (fun c => absurd c hc) (fun _ => vp_in_nI hr (by omega)) (fun _ => vp_in_nI (by omega) (by omega)) (fun _ => ?_)
    rw [nI_clamp (show r < 2 ^ 31 by omega), nI_clamp (show k < 2 ^ 31 by omega), show 7 + 5 * r + 1 = 8 + 5 * r by omega, (hR.2.2.1 r hr).1 k (by omega), nI_1]
    exact ih (k + 1) (by omega)
theorem dg_r {st : ST} (hR : RC st I J) {h : Int64} (hq : Go G (fr G m_LB_digest (d + 6) P) 82 [some (.ref 0), some (.long (dgR st h 4)), none, some (.int 0), none, none] [] I J) : ∀ (m r : Nat), r + m = 4 → Go G (fr G m_LB_digest (d + 6) P) 33 [some (.ref 0), some (.long (dgR st h r)), none, some (.int (nI r)), none, none] [] I J := by
  intro m
  induction m with
  | zero =>
    intro r hr
    obtain rfl : r = 4 := by omega
    have hle : (4 : Int32) ≤ nI 4 := by decide
    exact w_LB_digest_33 (fun _ => hq) (fun c => absurd hle c)
  | succ m ih =>
    intro r hr
    have hc : ¬ (4 : Int32) ≤ nI r := nI_ge (a := r) (b := 4) (by omega) (by omega)
    refine w_LB_digest_33 (fun c => absurd c hc) (fun _ => ?_)
    have h0 := dg_d (G := G) (d := d) (P := P) hR (r := r) (by omega) (h := dgR st h r) (by rw [nI_1]; exact ih (r + 1) (by omega)) 40 0 (by omega)
    rw [nI_0] at h0
    exact h0
theorem dg_k {st : ST} {I0 : MI} {J0 : MJ} (hR : RC st I0 J0) (hS : okS st) {r : Nat} (hr : r < 4) {h : Int64} (hq : ∀ I' J', KC I0 J0 I' J' → Go G (fr G m_LB_digest (d + 6) P) 82 [some (.ref 0), some (.long (dgK st r h 4)), none, some (.int (nI r + 1)), none, none] [] I' J') : ∀ (m k : Nat) (I : MI) (J : MJ), k + m = 4 → KC I0 J0 I J → Go G (fr G m_LB_digest (d + 6) P) 90 [some (.ref 0), some (.long (dgK st r h k)), none, some (.int (nI r)), some (.int (nI k)), none] [] I J := by
  intro m
  induction m with
  | zero =>
    intro k I J hk hK
    obtain rfl : k = 4 := by omega
    have hle : (4 : Int32) ≤ nI 4 := by decide
    exact w_LB_digest_90 (fun _ => hq I J hK) (fun c => absurd hle c)
  | succ m ih =>
    intro k I J hk hK
    have hc : ¬ (4 : Int32) ≤ nI k := nI_ge (a := k) (b := 4) (by omega) (by omega)
    have hn := nR_le hS r
    refine w_LB_digest_90 (fun c => absurd c hc) (fun _ => cl_cutRow (K := 2) (hR.keep hK) hS hr (show k < 4 by omega) (by omega) (by omega) (fun I' J' g1 g2 _ => ?_))
    have hK' := hK.tr g1.kc
    have e : dgK st r h (k + 1) = 31 * (31 * dgK st r h k + bT2 (Dp (cR st r k) (nR st r) 2 0) 0) + bT2 (Dp (cR st r k) (nR st r) 2 0) 1 := rfl
    have hnx := ih (k + 1) I' J' (by omega) hK'
    rw [e] at hnx
    cases hd : Dp (cR st r k) (nR st r) 2 0 with
    | none =>
      rw [hd] at hnx
      refine w_LB_digest_104 (fun _ => w_LB_digest_130 (fun _ => w_LB_digest_156 ?_) (fun c => absurd rfl c)) (fun c => absurd rfl c)
      rw [nI_1]
      exact hnx
    | some t =>
      rw [hd] at hnx
      have hne : ¬ (1 : Int32) = 0 := by decide
      refine w_LB_digest_104 (fun c => absurd c hne) (fun _ => sp_bestAbove (K := 2) g2 (by decide) hn hd (w_LB_digest_124 (w_LB_digest_130 (fun c => absurd c hne) (fun _ => sp_bestBelow (K := 2) g2 (by decide) hn hd (w_LB_digest_150 (w_LB_digest_156 ?_))))))
      rw [nI_1]
      exact hnx
theorem dg_s {st : ST} {I0 : MI} {J0 : MJ} (hR : RC st I0 J0) (hS : okS st) {h : Int64} (hq : ∀ I' J', KC I0 J0 I' J' → P (some (.long (31 * dgS st h 4 + Int32.toInt64 (faults st)))) I' J') : ∀ (m r : Nat) (I : MI) (J : MJ), r + m = 4 → KC I0 J0 I J → Go G (fr G m_LB_digest (d + 6) P) 82 [some (.ref 0), some (.long (dgS st h r)), none, some (.int (nI r)), none, none] [] I J := by
  intro m
  induction m with
  | zero =>
    intro r I J hr hK
    obtain rfl : r = 4 := by omega
    have hle : (4 : Int32) ≤ nI 4 := by decide
    exact w_LB_digest_82 (fun _ => sp_readText ((hR.keep hK).tx hS) (fun I' g _ => w_LB_digest_182 (hq I' J (hK.tr g.kc)))) (fun c => absurd hle c)
  | succ m ih =>
    intro r I J hr hK
    have hc : ¬ (4 : Int32) ≤ nI r := nI_ge (a := r) (b := 4) (by omega) (by omega)
    refine w_LB_digest_82 (fun c => absurd c hc) (fun _ => ?_)
    have h0 := dg_k (G := G) (d := d) (P := P) hR hS (r := r) (by omega) (h := dgS st h r) (fun I' J' g => by rw [nI_1]; exact ih (r + 1) I' J' (by omega) g) 4 0 I J (by omega) hK
    rw [nI_0] at h0
    exact h0
theorem cl_digest {st : ST} (hR : RC st I J) (hS : okS st) (hq : ∀ I' J', KC I J I' J' → P (some (.long (digestA st))) I' J') : Ct G (d + 6) m_LB_digest [.ref 0] P I J := by
  refine Ct.ofGo [some (.ref 0), none, none, none, none, none] (by decide +kernel) rfl (Nat.le_of_ble_eq_true rfl) (w_LB_digest_0 ?_)
  have h3 := dg_s (G := G) (d := d) (P := P) hR hS (h := dgR st (dgC st 8) 4) hq 4 0 I J (by omega) KC.rf
  rw [nI_0] at h3
  have h2 := dg_r (G := G) (d := d) (P := P) hR (h := dgC st 8) h3 4 0 (by omega)
  rw [nI_0] at h2
  have h1 := dg_c (G := G) (d := d) (P := P) hR h2 8 0 (by omega)
  rw [nI_0] at h1
  exact h1
/-! the reference -/
theorem rdg_c {st : ST} {I0 : MI} {J0 : MJ} (hR : RM st I0 J0) (hS : okS st) (hq : ∀ I' J', KM I0 J0 I' J' → Go G (fr G m_RM_digest (d + 5) P) 33 [some (.ref 67), some (.long (dgC st 8)), none, some (.int 0), none, none] [] I' J') : ∀ (r i : Nat) (I : MI) (J : MJ), i + r = 8 → KM I0 J0 I J → Go G (fr G m_RM_digest (d + 5) P) 6 [some (.ref 67), some (.long (dgC st i)), none, some (.int (nI i)), none, none] [] I J := by
  intro r
  induction r with
  | zero =>
    intro i I J hi hK
    obtain rfl : i = 8 := by omega
    have h7 : (8 : Int32) ≤ nI 8 := by decide
    exact w_RM_digest_6 (fun _ => hq I J hK) (fun c => absurd h7 c)
  | succ r ih =>
    intro i I J hi hK
    have h7 : ¬ (8 : Int32) ≤ nI i := nI_ge (a := i) (b := 8) (by omega) (by omega)
    refine w_RM_digest_6 (fun c => absurd c h7) (fun _ => md_count (hR.keep hK) hS (fun I' g => w_RM_digest_22 ?_))
    rw [nI_1]
    exact ih (i + 1) I' J (by omega) (hK.tr g)
theorem rdg_d {st : ST} {r : Nat} (hr : r < 4) (h75 : ∀ k, k < 40 → I 75 k = vwl st.1 (nI r) (nI k) st.2.1) {h : Int64} (hq : Go G (fr G m_RM_digest (d + 5) P) 33 [some (.ref 67), some (.long (dgD st r h 40)), none, some (.int (nI r + 1)), none, none] [] I J) : ∀ (m k : Nat), k + m = 40 → Go G (fr G m_RM_digest (d + 5) P) 50 [some (.ref 67), some (.long (dgD st r h k)), none, some (.int (nI r)), some (.int (nI k)), none] [] I J := by
  intro m
  induction m with
  | zero =>
    intro k hk
    obtain rfl : k = 40 := by omega
    have hle : (40 : Int32) ≤ nI 40 := by decide
    exact w_RM_digest_50 (fun _ => hq) (fun c => absurd hle c) (fun c => absurd hle c)
  | succ m ih =>
    intro k hk
    have hc : ¬ (40 : Int32) ≤ nI k := nI_ge (a := k) (b := 40) (by omega) (by omega)
    refine w_RM_digest_50 (fun c => absurd c hc) (fun _ => vp_in_nI (by omega) (by omega)) (fun _ => ?_)
    rw [nI_clamp (show k < 2 ^ 31 by omega), h75 k (by omega), nI_1]
    exact ih (k + 1) (by omega)
theorem rdg_r {st : ST} {I0 : MI} {J0 : MJ} (hR : RM st I0 J0) (hS : okS st) {h : Int64} (hq : ∀ I' J', KM I0 J0 I' J' → Go G (fr G m_RM_digest (d + 5) P) 86 [some (.ref 67), some (.long (dgR st h 4)), none, some (.int 0), none, none] [] I' J') : ∀ (m r : Nat) (I : MI) (J : MJ), r + m = 4 → KM I0 J0 I J → Go G (fr G m_RM_digest (d + 5) P) 33 [some (.ref 67), some (.long (dgR st h r)), none, some (.int (nI r)), none, none] [] I J := by
  intro m
  induction m with
  | zero =>
    intro r I J hr hK
    obtain rfl : r = 4 := by omega
    have hle : (4 : Int32) ≤ nI 4 := by decide
    exact w_RM_digest_33 (fun _ => hq I J hK) (fun c => absurd hle c)
  | succ m ih =>
    intro r I J hr hK
    have hc : ¬ (4 : Int32) ≤ nI r := nI_ge (a := r) (b := 4) (by omega) (by omega)
    have hR' := hR.keep hK
    refine w_RM_digest_33 (fun c => absurd c hc) (fun _ => ?_)
    rw [hR'.2.1]
    refine md_pointsBy hR'.1 hS.1 (fun I' g1 g2 _ => w_RM_digest_47 ?_)
    have h0 := rdg_d (G := G) (d := d) (P := P) (J := J) (r := r) (by omega) g2 (h := dgR st h r) (by rw [nI_1]; exact ih (r + 1) I' J (by omega) (hK.tr g1.km)) 40 0 (by omega)
    rw [nI_0] at h0
    exact h0
theorem rdg_k {st : ST} {I0 : MI} {J0 : MJ} (hR : RM st I0 J0) (hS : okS st) {r : Nat} (hr : r < 4) {h : Int64} (hq : ∀ I' J', KM I0 J0 I' J' → Go G (fr G m_RM_digest (d + 5) P) 86 [some (.ref 67), some (.long (dgK st r h 4)), none, some (.int (nI r + 1)), none, none] [] I' J') : ∀ (m k : Nat) (I : MI) (J : MJ), k + m = 4 → KM I0 J0 I J → Go G (fr G m_RM_digest (d + 5) P) 94 [some (.ref 67), some (.long (dgK st r h k)), none, some (.int (nI r)), some (.int (nI k)), none] [] I J := by
  intro m
  induction m with
  | zero =>
    intro k I J hk hK
    obtain rfl : k = 4 := by omega
    have hle : (4 : Int32) ≤ nI 4 := by decide
    exact w_RM_digest_94 (fun _ => hq I J hK) (fun c => absurd hle c)
  | succ m ih =>
    intro k I J hk hK
    have hc : ¬ (4 : Int32) ≤ nI k := nI_ge (a := k) (b := 4) (by omega) (by omega)
    have hR' := hR.keep hK
    have e : dgK st r h (k + 1) = 31 * (31 * dgK st r h k + bT2 (Dp (cR st r k) (nR st r) 2 0) 0) + bT2 (Dp (cR st r k) (nR st r) 2 0) 1 := rfl
    refine w_RM_digest_94 (fun c => absurd c hc) (fun _ => ?_)
    rw [hR'.2.1]
    refine md_finds (K := 2) hR' hS hr (show k < 4 by omega) (by omega) (by omega) (fun I' g1 _ g2 => ?_) (fun I' J' g1 _ g2 => ?_)
    · have g2 : (Dp (cR st r k) (nR st r) 2 0).isSome = false := g2
      have hnx := ih (k + 1) I' J (by omega) (hK.tr g1)
      have hno : Dp (cR st r k) (nR st r) 2 0 = none := by
        cases hd : Dp (cR st r k) (nR st r) 2 0 with
        | none => rfl
        | some t => rw [hd] at g2; exact absurd g2 (by simp)
      rw [e, hno] at hnx
      refine w_RM_digest_112 (fun _ => w_RM_digest_136 (fun _ => w_RM_digest_160 ?_) (fun c => absurd rfl c)) (fun c => absurd rfl c)
      rw [nI_1]
      exact hnx
    · have hnx := ih (k + 1) I' J' (by omega) (hK.tr g1)
      obtain ⟨t, ht⟩ := Option.isSome_iff_exists.mp g2.2.2.2.1
      have ht' : Dp (cR st r k) (nR st r) 2 0 = some t := ht
      rw [e, ht'] at hnx
      have hne : ¬ (1 : Int32) = 0 := by decide
      refine w_RM_digest_112 (fun c => absurd c hne) (fun _ => md_bestTold (K := 2) g2.2.2.1 (by omega) ht (w_RM_digest_130 (w_RM_digest_136 (fun c => absurd c hne) (fun _ => md_bestTold (K := 2) g2.2.2.1 (by omega) ht (w_RM_digest_154 (w_RM_digest_160 ?_))))))
      rw [nI_1]
      exact hnx
theorem rdg_s {st : ST} {I0 : MI} {J0 : MJ} (hR : RM st I0 J0) (hS : okS st) {h : Int64} (hq : ∀ I' J', KM I0 J0 I' J' → P (some (.long (31 * dgS st h 4 + Int32.toInt64 (faults st)))) I' J') : ∀ (m r : Nat) (I : MI) (J : MJ), r + m = 4 → KM I0 J0 I J → Go G (fr G m_RM_digest (d + 5) P) 86 [some (.ref 67), some (.long (dgS st h r)), none, some (.int (nI r)), none, none] [] I J := by
  intro m
  induction m with
  | zero =>
    intro r I J hr hK
    obtain rfl : r = 4 := by omega
    have hle : (4 : Int32) ≤ nI 4 := by decide
    exact w_RM_digest_86 (fun _ => md_faultNow ((hR.keep hK).tn hS) (fun I' g _ => w_RM_digest_183 (hq I' J (hK.tr g.km)))) (fun c => absurd hle c)
  | succ m ih =>
    intro r I J hr hK
    have hc : ¬ (4 : Int32) ≤ nI r := nI_ge (a := r) (b := 4) (by omega) (by omega)
    refine w_RM_digest_86 (fun c => absurd c hc) (fun _ => ?_)
    have h0 := rdg_k (G := G) (d := d) (P := P) hR hS (r := r) (by omega) (h := dgS st h r) (fun I' J' g => by rw [nI_1]; exact ih (r + 1) I' J' (by omega) g) 4 0 I J (by omega) hK
    rw [nI_0] at h0
    exact h0
theorem md_digest {st : ST} (hR : RM st I J) (hS : okS st) (hq : ∀ I' J', KM I J I' J' → P (some (.long (digestA st))) I' J') : Ct G (d + 5) m_RM_digest [.ref 67] P I J := by
  refine Ct.ofGo [some (.ref 67), none, none, none, none, none] (by decide +kernel) rfl (Nat.le_of_ble_eq_true rfl) (w_RM_digest_0 ?_)
  have h1 := rdg_c (G := G) (d := d) (P := P) hR hS (fun I1 J1 g1 => by
    have h2 := rdg_r (G := G) (d := d) (P := P) hR hS (h := dgC st 8) (fun I2 J2 g2 => by
      have h3 := rdg_s (G := G) (d := d) (P := P) hR hS (h := dgR st (dgC st 8) 4) hq 4 0 I2 J2 (by omega) g2
      rw [nI_0] at h3
      exact h3) 4 0 I1 J1 (by omega) g1
    rw [nI_0] at h2
    exact h2) 8 0 I J (by omega) KM.rf
  rw [nI_0] at h1
  exact h1
end
