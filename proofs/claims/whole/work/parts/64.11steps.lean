/-! fit, sham, ask -/
/-- where p stands behind m hours of the first day, if it aims at a -/
def wayN (T : Tn) (p a : Nat) : Nat → Int32
  | 0 => tR T 1 p
  | m + 1 => nearF (wayN T p a m) (if rsts T (nI m) p = true then tR T 1 p else tR T 1 a)
theorem placeBy_ok {T : Tn} {ρ : Mem} (hT : okT T) (h : MN T ρ) {p a : Nat} (hp : p < tN T) (ha : a < tN T) {m : Nat} (hm : m < 100) : Ok (X12_placeBy (nI p) (nI a) (nI m) ρ) (fun r => r = (wayN T p a (m + 1), ρ)) := by
  have hn := hT.1
  have bp := ib_t (n := p) (k := 6) (by omega) (by omega)
  have cp := ni_cl (n := p) (by omega)
  have ba := ib_t (n := a) (k := 6) (by omega) (by omega)
  have ca := ni_cl (n := a) (by omega)
  have hP := h.2.2.1 p hp
  have hA := h.2.2.1 a ha
  unfold X12_placeBy
  refine ok_pos bp (ok_bv (ok_bv ?_))
  rw [cp, hP.1]
  refine ok_loop0 (F := fun n i (x : Int32) => X12_placeBy_11 n (nI p) (nI a) (nI m) x i ρ) (N := m + 1) (I := fun i x => x = wayN T p a i) 0 _ (by omega) (by omega) rfl ?_ ?_
  · intro n i x hi hx hk
    show Ok (X12_placeBy_11 (n + 1) (nI p) (nI a) (nI m) x (nI i) ρ) _
    rw [X12_placeBy_11]
    refine ok_neg (by rw [ni_lt (by omega) (by omega)]; omega) (ok_pos bp ?_)
    rw [cp, ca, h.2.1, hP.2.2.2.2.1, hP.1, hA.1]
    have hr : rsts T (nI i) p = decide (nI (tD T) - tR T 5 p ≤ nI i) := rfl
    unfold X12_placeBy_50
    refine ok_ite (fun z => ok_pos ba (ok_bindE (nearer_ok _ _ _) (ok_bv (ok_bv ?_)))) (fun z => ok_pos bp (ok_bindE (nearer_ok _ _ _) (ok_bv (ok_bv ?_))))
    · rw [ni_succ]
      refine hk _ ?_
      show nearF x (tR T 1 a) = nearF (wayN T p a i) (if rsts T (nI i) p = true then tR T 1 p else tR T 1 a)
      rw [hx, hr, decide_eq_false (Int32.not_le.mpr z), if_neg Bool.false_ne_true]
    · rw [ni_succ]
      refine hk _ ?_
      show nearF x (tR T 1 p) = nearF (wayN T p a i) (if rsts T (nI i) p = true then tR T 1 p else tR T 1 a)
      rw [hx, hr, decide_eq_true (Int32.not_lt.mp z), if_pos rfl]
  · intro n x hx
    show Ok (X12_placeBy_11 (n + 1) (nI p) (nI a) (nI m) x (nI (m + 1)) ρ) _
    rw [X12_placeBy_11]
    refine ok_pos (by rw [ni_lt (by omega) (by omega)]; omega) (ok_some ?_)
    rw [hx]
theorem layWay_ok {T : Tn} {σ : Mem} {t : Nat} (hT : okT T) (ht : t = 7 ∨ t = 124) (h : CT T t σ) {p a : Nat} (hp : p < tN T) (ha : a < tN T) : Ok (X8_layWay t (nI p) (nI a) σ) (fun σ' => ∀ j, σ'.1 120 j = if 24 * a ≤ j ∧ j < 24 * a + tD T then wayN T p a (j - 24 * a + 1) else σ.1 120 j) := by
  have hn := hT.1
  have h24 := hT.2.2.1
  have bp := ib_t (n := p) (k := 6) (by omega) (by omega)
  have cp := ni_cl (n := p) (by omega)
  have ba := ib_t (n := a) (k := 6) (by omega) (by omega)
  have ca := ni_cl (n := a) (by omega)
  unfold X8_layWay
  refine ok_pos bp (ok_bv (ok_bv ?_))
  rw [cp, (h.2.2.1 p hp).1]
  refine ok_loop0 (F := fun n i (y : Int32 × Mem) => X8_layWay_11 t n (nI p) (nI a) y.1 i y.2) (N := tD T) (I := fun i y => Fr [120] [] σ y.2 ∧ y.1 = wayN T p a i ∧ ∀ j, y.2.1 120 j = if 24 * a ≤ j ∧ j < 24 * a + i then wayN T p a (j - 24 * a + 1) else σ.1 120 j) 0 (tR T 1 p, σ) (by omega) (by omega) ⟨Fr.refl, rfl, fun j => by rw [if_neg (by omega)]⟩ ?_ ?_
  · rintro n i ⟨x, σ'⟩ hi ⟨hf, hx, hI⟩ hk
    have hf : Fr [120] [] σ σ' := hf
    have hx : x = wayN T p a i := hx
    have hI : ∀ j, σ'.1 120 j = if 24 * a ≤ j ∧ j < 24 * a + i then wayN T p a (j - 24 * a + 1) else σ.1 120 j := hI
    have hC : CT T t σ' := h.keep (fun c h1 h2 _ _ _ => hf.ne (by simp; omega))
    have h71 : ∀ v, v = wayN T p a (i + 1) → Ok (X8_layWay_71 t (X8_layWay_11 t n) (nI p) (nI a) v (nI i) σ') (fun σ' => ∀ j, σ'.1 120 j = if 24 * a ≤ j ∧ j < 24 * a + tD T then wayN T p a (j - 24 * a + 1) else σ.1 120 j) := by
      intro v hv
      unfold X8_layWay_71
      rw [show nI a * 24 + nI i = nI (24 * a + i) by rw [show (24 : Int32) = nI 24 from rfl, ni_mul, ni_add, Nat.mul_comm]]
      refine ok_pos (ib_t (by omega) (by omega)) (ok_bv (ok_bv ?_))
      rw [ni_cl (by omega), ni_succ]
      refine hk (v, _) ⟨frI hf (.head _), hv, fun j => ?_⟩
      show (sI σ' 120 (24 * a + i) v).1 120 j = _
      rw [sI_o, hI j]
      by_cases z : j = 24 * a + i
      · rw [if_pos z, if_pos (by omega), hv, show j - 24 * a + 1 = i + 1 by omega]
      · rw [if_neg z]
        by_cases y : 24 * a ≤ j ∧ j < 24 * a + i
        · rw [if_pos y, if_pos (by omega)]
        · rw [if_neg y, if_neg (by omega)]
    have h45 : ∀ g, wayN T p a (i + 1) = nearF x g → Ok (X8_layWay_45 t (X8_layWay_11 t n) (nI p) (nI a) x (nI i) g σ') (fun σ' => ∀ j, σ'.1 120 j = if 24 * a ≤ j ∧ j < 24 * a + tD T then wayN T p a (j - 24 * a + 1) else σ.1 120 j) := by
      intro g hg
      unfold X8_layWay_45
      refine ok_ite (fun z => h71 x ?_) (fun z => ok_ite (fun y => ?_) (fun y => ?_))
      · rw [hg]
        exact ((nearF_eq x g).mpr z).symm
      · unfold X8_layWay_68
        refine ok_bv (h71 _ ?_)
        rw [hg]
        unfold nearF
        rw [if_neg (Int32.not_lt.mpr y), if_pos (Int32.lt_of_le_of_ne y (fun e => z e.symm)), Int32.sub_eq_add_neg]
      · unfold X8_layWay_68
        refine ok_bv (h71 _ ?_)
        rw [hg]
        unfold nearF
        rw [if_pos (Int32.not_le.mp y)]
    show Ok (X8_layWay_11 t (n + 1) (nI p) (nI a) x (nI i) σ') _
    rw [X8_layWay_11, hC.2.1]
    refine ok_neg (by rw [ni_le (by omega) (by omega)]; omega) ?_
    refine ok_bindE (rests_ok hT hC hp _) ?_
    refine ok_ite (fun z => ok_pos ba ?_) (fun z => ok_pos bp ?_)
    · rw [tr_ne] at z
      show Ok (X8_layWay_45 t _ _ _ x _ (σ'.1 (t + 1) (nI a).toNatClampNeg) σ') _
      rw [ca, (hC.2.2.1 a ha).1]
      refine h45 _ ?_
      show nearF (wayN T p a i) (if rsts T (nI i) p = true then tR T 1 p else tR T 1 a) = _
      rw [z, if_neg Bool.false_ne_true, hx]
    · have z' : rsts T (nI i) p = true := by rw [tr_ne] at z; simpa using z
      show Ok (X8_layWay_45 t _ _ _ x _ (σ'.1 (t + 1) (nI p).toNatClampNeg) σ') _
      rw [cp, (hC.2.2.1 p hp).1]
      refine h45 _ ?_
      show nearF (wayN T p a i) (if rsts T (nI i) p = true then tR T 1 p else tR T 1 a) = _
      rw [z', if_pos rfl, hx]
  · rintro n ⟨x, σ'⟩ ⟨hf, hx, hI⟩
    have hf : Fr [120] [] σ σ' := hf
    have hC : CT T t σ' := h.keep (fun c h1 h2 _ _ _ => hf.ne (by simp; omega))
    show Ok (X8_layWay_11 t (n + 1) (nI p) (nI a) x (nI (tD T)) σ') _
    rw [X8_layWay_11, hC.2.1]
    exact ok_pos (Int32.le_refl _) (ok_some hI)
/-- the steps that are told, read off the class's memory -/
def knw (σ : Mem) (k : Int32) (i : Nat) : Bool := decide (σ.1 118 i ≤ k) && (decide (σ.1 119 i = -1) || decide (k < σ.1 119 i))
def fitI (T : Tn) (σ : Mem) (p : Nat) (k : Int32) (a i : Nat) : Bool := !(knw σ k i && decide (σ.1 115 i = nI p)) || decide (wayN T p a (ix (σ.1 116 i) + 1) = σ.1 117 i)
def allB (f : Nat → Bool) : Nat → Bool
  | 0 => true
  | i + 1 => allB f i && f i
def fsF (T : Tn) (σ : Mem) (c p : Nat) (k : Int32) : Nat → Int32
  | 0 => 0
  | a + 1 => if allB (fitI T σ p k a) c = true then fsF T σ c p k a ||| (1 <<< (nI a &&& 31)) else fsF T σ c p k a
theorem allB_false {f : Nat → Bool} {i : Nat} : ∀ {c : Nat}, i < c → f i = false → allB f c = false
  | c + 1, h, hf => by
    unfold allB
    by_cases z : i = c
    · rw [← z, hf, Bool.and_false]
    · rw [allB_false (show i < c by omega) hf, Bool.false_and]
theorem isFit_ok {T : Tn} {σ σ' : Mem} {c p a : Nat} {k : Int32} (hc : c ≤ 30) (h24 : tD T ≤ 24) (ha : a < 6) (e6 : σ'.1 114 6 = nI c) (hs : ∀ j, 115 ≤ j → j ≤ 119 → σ'.1 j = σ.1 j) (hh : ∀ i, i < c → ∃ h, h < tD T ∧ σ.1 116 i = nI h) (hu : ∀ i, i < c → σ.1 119 i = -1 ∨ 0 ≤ σ.1 119 i) (hw : ∀ h, h < tD T → σ'.1 120 (24 * a + h) = wayN T p a (h + 1)) :
    Ok (X8_isFitting (nI p) (nI a) k σ') (fun r => r = (tr (allB (fitI T σ p k a) c), σ')) := by
  unfold X8_isFitting
  refine ok_bv ?_
  refine ok_loop0 (F := fun n i (_ : Unit) => X8_isFitting_3 n (nI p) (nI a) k i σ') (N := c) (I := fun i _ => allB (fitI T σ p k a) i = true) 0 () (by omega) (by omega) rfl ?_ ?_
  · intro n i _ hi hI hk
    have bi := ib_t (n := i) (k := 30) (by omega) (by omega)
    have ci := ni_cl (n := i) (by omega)
    obtain ⟨h, hh, eh⟩ := hh i hi
    have hgo : fitI T σ p k a i = true → Ok (X8_isFitting_97 (X8_isFitting_3 n) (nI p) (nI a) k (nI i) σ') (fun r => r = (tr (allB (fitI T σ p k a) c), σ')) := by
      intro hf
      unfold X8_isFitting_97
      refine ok_bv ?_
      rw [ni_succ]
      refine hk () ?_
      show (allB (fitI T σ p k a) i && fitI T σ p k a i) = true
      rw [hI, hf]
      rfl
    have h0 : knw σ k i = false → Ok (X8_isFitting_49 (X8_isFitting_50 (X8_isFitting_3 n)) (nI p) (nI a) k (nI i) σ') (fun r => r = (tr (allB (fitI T σ p k a) c), σ')) := by
      intro hkn
      unfold X8_isFitting_49 X8_isFitting_50
      exact ok_pos rfl (hgo (by unfold fitI; rw [hkn]; rfl))
    have h1 : knw σ k i = true → Ok (X8_isFitting_45 (X8_isFitting_50 (X8_isFitting_3 n)) (nI p) (nI a) k (nI i) σ') (fun r => r = (tr (allB (fitI T σ p k a) c), σ')) := by
      intro hkn
      unfold X8_isFitting_45 X8_isFitting_50
      refine ok_neg one_ne (ok_pos bi ?_)
      rw [ci, hs 115 (by omega) (by omega), hs 116 (by omega) (by omega), hs 117 (by omega) (by omega), eh]
      refine ok_ite (fun z => ok_pos bi ?_) (fun z => hgo (by unfold fitI; rw [decide_eq_false z, Bool.and_false]; rfl))
      rw [show nI a * 24 + nI h = nI (24 * a + h) by rw [show (24 : Int32) = nI 24 from rfl, ni_mul, ni_add, Nat.mul_comm]]
      refine ok_pos (ib_t (by omega) (by omega)) (ok_pos bi ?_)
      rw [ni_cl (by omega), hw h hh]
      have hfi : fitI T σ p k a i = decide (wayN T p a (h + 1) = σ.1 117 i) := by
        unfold fitI
        rw [hkn, decide_eq_true z, eh, show ix (nI h) = h from ni_cl (by omega)]
        rfl
      refine ok_ite (fun y => hgo (by rw [hfi]; exact decide_eq_true y)) (fun y => ok_some ?_)
      rw [allB_false hi (by rw [hfi]; exact decide_eq_false y)]
      rfl
    show Ok (X8_isFitting_3 (n + 1) (nI p) (nI a) k (nI i) σ') _
    rw [X8_isFitting_3, e6]
    refine ok_neg (by rw [ni_le (by omega) (by omega)]; omega) (ok_pos bi ?_)
    rw [ci, hs 118 (by omega) (by omega), hs 119 (by omega) (by omega)]
    refine ok_ite (fun z => h0 ?_) (fun z => ok_pos bi (ok_ite (fun y => h1 ?_) (fun y => ok_pos bi (ok_ite (fun x => h0 ?_) (fun x => h1 ?_)))))
    · unfold knw
      rw [decide_eq_false (Int32.not_le.mpr z)]
      rfl
    · unfold knw
      rw [decide_eq_true (Int32.not_lt.mp z), decide_eq_true y]
      rfl
    · unfold knw
      rw [decide_eq_false y, decide_eq_false (Int32.not_lt.mpr x)]
      simp
    · unfold knw
      rw [decide_eq_true (Int32.not_lt.mp z), decide_eq_true (Int32.not_le.mp x)]
      simp
  · intro n _ hI
    show Ok (X8_isFitting_3 (n + 1) (nI p) (nI a) k (nI c) σ') _
    rw [X8_isFitting_3, e6]
    refine ok_pos (Int32.le_refl _) (ok_some ?_)
    rw [hI]
    rfl
theorem fitC_ok {T : Tn} {σ : Mem} {t c p : Nat} {k : Int32} (hT : okT T) (ht : t = 7 ∨ t = 124) (h : CT T t σ) (hc : c ≤ 30) (e6 : σ.1 114 6 = nI c) (hh : ∀ i, i < c → ∃ h, h < tD T ∧ σ.1 116 i = nI h) (hu : ∀ i, i < c → σ.1 119 i = -1 ∨ 0 ≤ σ.1 119 i) (hp : p < tN T) :
    Ok (X8_fittingAims t (nI p) k σ) (fun r => r.1 = fsF T σ c p k (tN T) ∧ ∀ a h, a < tN T → h < tD T → r.2.1 120 (24 * a + h) = wayN T p a (h + 1)) := by
  have hn := hT.1
  have h24 := hT.2.2.1
  unfold X8_fittingAims
  refine ok_bv (ok_bv ?_)
  refine ok_loop0 (F := fun n i (y : Int32 × Mem) => X8_fittingAims_6 t n (nI p) k y.1 i y.2) (N := tN T) (I := fun i y => Fr [120] [] σ y.2 ∧ y.1 = fsF T σ c p k i ∧ ∀ a h, a < i → h < tD T → y.2.1 120 (24 * a + h) = wayN T p a (h + 1)) 0 (0, σ) (by omega) (by omega) ⟨Fr.refl, rfl, fun a h ha => by omega⟩ ?_ ?_
  · rintro n i ⟨x, σ'⟩ hi ⟨hf, hx, hI⟩ hk
    have hf : Fr [120] [] σ σ' := hf
    have hx : x = fsF T σ c p k i := hx
    have hC : CT T t σ' := h.keep (fun c h1 h2 _ _ _ => hf.ne (by simp; omega))
    show Ok (X8_fittingAims_6 t (n + 1) (nI p) k x (nI i) σ') _
    rw [X8_fittingAims_6, hC.1]
    refine ok_neg (by rw [ni_le (by omega) (by omega)]; omega) ?_
    refine ok_bind (ok_fr (layWay_ok hT ht hC hp hi) (fr_X8_layWay _ _ _ _ Fr.refl)) ?_
    rintro σ2 ⟨hw, f2⟩
    have f2 : Fr [120] [] σ' σ2 := f2
    have f3 := hf.trans f2
    have hways : ∀ a h, a < i + 1 → h < tD T → σ2.1 120 (24 * a + h) = wayN T p a (h + 1) := by
      intro a h ha hh
      rw [hw]
      by_cases z : a = i
      · rw [if_pos (by omega), z, show 24 * i + h - 24 * i + 1 = h + 1 by omega]
      · rw [if_neg (by omega)]
        exact hI a h (by omega) hh
    refine ok_bind (isFit_ok (σ := σ) (k := k) hc h24 (show i < 6 by omega) (by rw [f3.ne (by decide)]; exact e6) (fun j g1 g2 => f3.ne (by simp; omega)) hh hu (fun h hh => hways i h (by omega) hh)) ?_
    rintro _ rfl
    unfold X8_fittingAims_43
    refine ok_ite (fun z => ok_bv ?_) (fun z => ok_bv (ok_bv ?_))
    · rw [tr_ne] at z
      rw [ni_succ]
      refine hk (x, σ2) ⟨f3, ?_, hways⟩
      show x = fsF T σ c p k (i + 1)
      unfold fsF
      rw [z, if_neg Bool.false_ne_true, hx]
    · have z' : allB (fitI T σ p k i) c = true := by rw [tr_ne] at z; simpa using z
      rw [ni_succ]
      refine hk (_, σ2) ⟨f3, ?_, hways⟩
      show x ||| (1 <<< (nI i &&& 31)) = fsF T σ c p k (i + 1)
      rw [show fsF T σ c p k (i + 1) = if allB (fitI T σ p k i) c = true then fsF T σ c p k i ||| (1 <<< (nI i &&& 31)) else fsF T σ c p k i from rfl, z', if_pos rfl, hx]
  · rintro n ⟨x, σ'⟩ ⟨hf, hx, hI⟩
    have hf : Fr [120] [] σ σ' := hf
    have hC : CT T t σ' := h.keep (fun c h1 h2 _ _ _ => hf.ne (by simp; omega))
    show Ok (X8_fittingAims_6 t (n + 1) (nI p) k x (nI (tN T)) σ') _
    rw [X8_fittingAims_6, hC.1]
    exact ok_pos (Int32.le_refl _) (ok_some ⟨hx, hI⟩)
theorem fitM_ok {T : Tn} {σ ρ : Mem} {c p : Nat} {k : Int32} (hT : okT T) (h : MN T ρ) (hc : c ≤ 30) (e6 : ρ.1 1000 86 = nI c) (h5 : ∀ i, i < c → (∃ p, p < tN T ∧ σ.1 115 i = nI p ∧ ρ.1 1045 i = nI p) ∧ (∃ h, h < tD T ∧ σ.1 116 i = nI h ∧ ρ.1 1046 i = nI h) ∧ σ.1 117 i = ρ.1 1047 i ∧ σ.1 118 i = ρ.1 1048 i ∧ σ.1 119 i = ρ.1 1049 i ∧ (σ.1 119 i = -1 ∨ 0 ≤ σ.1 119 i)) (hp : p < tN T) :
    Ok (X12_fitSet (nI p) k ρ) (fun r => r = (fsF T σ c p k (tN T), ρ)) := by
  have hn := hT.1
  have h24 := hT.2.2.1
  unfold X12_fitSet
  refine ok_bv (ok_bv ?_)
  refine ok_loop0 (F := fun n i (x : Int32) => X12_fitSet_5 n (nI p) k x i ρ) (N := tN T) (I := fun i x => x = fsF T σ c p k i) 0 0 (by omega) (by omega) rfl ?_ ?_
  · intro n a x ha hx hk
    show Ok (X12_fitSet_5 (n + 1) (nI p) k x (nI a) ρ) _
    rw [X12_fitSet_5, h.1]
    refine ok_neg (by rw [ni_le (by omega) (by omega)]; omega) (ok_bv (ok_bv ?_))
    refine ok_loop0 (F := fun m i (y : Int32) => X12_fitSet_20 (X12_fitSet_5 n) m (nI p) k x (nI a) y i ρ) (N := c) (I := fun i y => y = tr (allB (fitI T σ p k a) i)) 0 1 (by omega) (by omega) rfl ?_ ?_
    · intro m i y hi hy hk2
      have bi := ib_t (n := i) (k := 30) (by omega) (by omega)
      have ci := ni_cl (n := i) (by omega)
      obtain ⟨⟨q, hq, eq1, eq2⟩, ⟨hr, hhr, eh1, eh2⟩, e117, e118, e119, hu⟩ := h5 i hi
      have hgo : ∀ y', y' = tr (allB (fitI T σ p k a) (i + 1)) → Ok (X12_fitSet_108 (X12_fitSet_20 (X12_fitSet_5 n) m) (nI p) k x (nI a) y' (nI i) ρ) (fun r => r = (fsF T σ c p k (tN T), ρ)) := by
        intro y' hy'
        unfold X12_fitSet_108
        refine ok_bv ?_
        rw [ni_succ]
        exact hk2 y' hy'
      have hskip : fitI T σ p k a i = true → Ok (X12_fitSet_108 (X12_fitSet_20 (X12_fitSet_5 n) m) (nI p) k x (nI a) y (nI i) ρ) (fun r => r = (fsF T σ c p k (tN T), ρ)) := by
        intro hf
        refine hgo y ?_
        rw [hy]
        show _ = tr (allB (fitI T σ p k a) i && fitI T σ p k a i)
        rw [hf, Bool.and_true]
      have h72 : knw σ k i = true → σ.1 115 i = nI p → Ok (X12_fitSet_72 (X12_fitSet_108 (X12_fitSet_20 (X12_fitSet_5 n) m)) (nI p) k x (nI a) y (nI i) ρ) (fun r => r = (fsF T σ c p k (tN T), ρ)) := by
        intro hkn hper
        have hfi : fitI T σ p k a i = decide (wayN T p a (hr + 1) = σ.1 117 i) := by
          unfold fitI
          rw [hkn, decide_eq_true hper, eh1, show ix (nI hr) = hr from ni_cl (by omega)]
          rfl
        unfold X12_fitSet_72 X12_fitSet_105 X12_fitSet_106
        rw [hy]
        refine ok_ite (fun z => hgo 0 ?_) (fun z => ok_pos bi ?_)
        · rw [tr_ne] at z
          show _ = tr (allB (fitI T σ p k a) i && fitI T σ p k a i)
          rw [z]
          rfl
        · have z' : allB (fitI T σ p k a) i = true := by rw [tr_ne] at z; simpa using z
          rw [ci, eh2]
          refine ok_bind (placeBy_ok hT h hp ha (show hr < 100 by omega)) ?_
          rintro _ rfl
          refine ok_pos bi ?_
          show Ok (if wayN T p a (hr + 1) = ρ.1 1047 i then _ else _) _
          rw [← e117]
          refine ok_ite (fun w => hgo 1 ?_) (fun w => hgo 0 ?_)
          · show _ = tr (allB (fitI T σ p k a) i && fitI T σ p k a i)
            rw [z', hfi, decide_eq_true w]
            rfl
          · show _ = tr (allB (fitI T σ p k a) i && fitI T σ p k a i)
            rw [z', hfi, decide_eq_false w]
            rfl
      show Ok (X12_fitSet_20 (X12_fitSet_5 n) (m + 1) (nI p) k x (nI a) y (nI i) ρ) _
      rw [X12_fitSet_20, e6]
      refine ok_neg (by rw [ni_le (by omega) (by omega)]; omega) (ok_pos bi ?_)
      rw [ci, eq2, ← e118, ← e119, ← eq1]
      refine ok_ite (fun z => ok_pos bi ?_) (fun z => hskip (by unfold fitI; rw [decide_eq_false z, Bool.and_false]; rfl))
      refine ok_ite (fun w => hskip ?_) (fun w => ok_pos bi (ok_ite (fun v => h72 ?_ z) (fun v => ok_pos bi (ok_ite (fun u => hskip ?_) (fun u => h72 ?_ z)))))
      · unfold fitI knw
        rw [decide_eq_false (Int32.not_le.mpr w)]
        rfl
      · unfold knw
        rcases hu with g | g
        · rw [decide_eq_true (Int32.not_lt.mp w), decide_eq_true g]
          rfl
        · exact absurd v (Int32.not_lt.mpr g)
      · have hne : ¬ σ.1 119 i = -1 := fun g => by rw [g] at v; exact v (by decide)
        unfold fitI knw
        rw [decide_eq_false hne, decide_eq_false (Int32.not_lt.mpr u)]
        simp
      · unfold knw
        rw [decide_eq_true (Int32.not_lt.mp w), decide_eq_true (Int32.not_le.mp u)]
        simp
    · intro m y hy
      show Ok (X12_fitSet_20 (X12_fitSet_5 n) (m + 1) (nI p) k x (nI a) y (nI c) ρ) _
      rw [X12_fitSet_20, e6, hy]
      refine ok_pos (Int32.le_refl _) ?_
      unfold X12_fitSet_128
      refine ok_ite (fun z => ok_bv (ok_bv ?_)) (fun z => ok_bv (ok_bv ?_))
      · rw [tr_ne] at z
        rw [ni_succ]
        refine hk _ ?_
        show x ||| 0 = fsF T σ c p k (a + 1)
        rw [show fsF T σ c p k (a + 1) = if allB (fitI T σ p k a) c = true then fsF T σ c p k a ||| (1 <<< (nI a &&& 31)) else fsF T σ c p k a from rfl, z, if_neg Bool.false_ne_true, hx, Int32.or_zero]
      · have z' : allB (fitI T σ p k a) c = true := by rw [tr_ne] at z; simpa using z
        rw [ni_succ]
        refine hk _ ?_
        show x ||| (1 <<< (nI a &&& 31)) = fsF T σ c p k (a + 1)
        rw [show fsF T σ c p k (a + 1) = if allB (fitI T σ p k a) c = true then fsF T σ c p k a ||| (1 <<< (nI a &&& 31)) else fsF T σ c p k a from rfl, z', if_pos rfl, hx]
  · intro n x hx
    show Ok (X12_fitSet_5 (n + 1) (nI p) k x (nI (tN T)) ρ) _
    rw [X12_fitSet_5, h.1]
    refine ok_pos (Int32.le_refl _) (ok_some ?_)
    rw [hx]
theorem s_fit (a0 a1 : Int32) : StpI Inv (X11_fit a0 a1) (X12_fit a0 a1) := by
  refine stpQ (fun σ => fr_X11_fit a0 a1 σ Fr.refl) (fun σ => fr_X12_fit a0 a1 σ Fr.refl) (by decide) (by decide) (fun σ ρ hI => ?_)
  obtain ⟨t, T, s, h1, h2, -, -, ⟨c, tm, hc, htm, e1, e2, e3, e4, h5⟩, -, -, -, -⟩ := hI
  show Eq2 _ _
  have hT := h1.2.2.2.1
  have hn := hT.1
  unfold X11_fit X12_fit
  refine eq2_lbind (isPersonC_ok h1 a0) (eq2_rbind (isPersonM_ok h1 a0) ?_)
  cases hb : isP (tN T) a0 with
  | false => exact eq2_lpos rfl (eq2_rpos rfl (eq2_some rfl))
  | true =>
    obtain ⟨p, hp, rfl⟩ := isP_t hn hb
    refine eq2_lneg one_ne (eq2_rneg one_ne ?_)
    show Eq2 (gT (σ.1 0 12) _) _
    rw [h1.2.1, gT_ok h1.1]
    refine ⟨fsF T σ c p a1 (tN T), ?_, ?_⟩
    · exact ok_bind (fitC_ok hT h1.1 h1.2.2.2.2.1 hc e1 (fun i hi => by obtain ⟨h, g1, g2, -⟩ := (h5 i hi).2.1; exact ⟨h, g1, g2⟩) (fun i hi => (h5 i hi).2.2.2.2.2) hp) (fun r hr => ok_some hr.1)
    · refine ok_bind (fitM_ok hT h1.2.2.2.2.2.2.1 hc e2 h5 hp) ?_
      rintro _ rfl
      exact ok_some rfl
theorem fsF_congr {T : Tn} {σ σ' : Mem} {c p : Nat} {k : Int32} (hs : ∀ j, 115 ≤ j → j ≤ 119 → σ'.1 j = σ.1 j) : ∀ a, fsF T σ' c p k a = fsF T σ c p k a
  | 0 => rfl
  | a + 1 => by
    have e : ∀ i, fitI T σ' p k a i = fitI T σ p k a i := fun i => by
      unfold fitI knw
      rw [hs 115 (by omega) (by omega), hs 116 (by omega) (by omega), hs 117 (by omega) (by omega), hs 118 (by omega) (by omega), hs 119 (by omega) (by omega)]
    have e2 : fitI T σ' p k a = fitI T σ p k a := funext e
    show (if allB (fitI T σ' p k a) c = true then _ else _) = (if allB (fitI T σ p k a) c = true then _ else _)
    rw [e2, fsF_congr hs a]
def shmF (T : Tn) (σ : Mem) (c : Nat) (k : Int32) : Nat → Int32
  | 0 => 0
  | p + 1 => if fsF T σ c p k (tN T) = 0 then shmF T σ c k p ||| (1 <<< (nI p &&& 31)) else shmF T σ c k p
theorem s_sham (a0 : Int32) : StpI Inv (X11_sham a0) (X12_sham a0) := by
  refine stpQ (fun σ => fr_X11_sham a0 σ Fr.refl) (fun σ => fr_X12_sham a0 σ Fr.refl) (by decide) (by decide) (fun σ ρ hI => ?_)
  obtain ⟨t, T, s, h1, h2, -, -, ⟨c, tm, hc, htm, e1, e2, e3, e4, h5⟩, -, -, -, -⟩ := hI
  show Eq2 _ _
  have hT := h1.2.2.2.1
  have hn := hT.1
  have ht := h1.1
  refine ⟨shmF T σ c a0 (tN T), ?_, ?_⟩
  · unfold X11_sham
    refine ok_bv (ok_bv ?_)
    refine ok_loop0 (F := fun n i (y : Int32 × Mem) => X11_sham_4 n a0 y.1 i y.2) (N := tN T) (I := fun i y => Fr [120] [] σ y.2 ∧ y.1 = shmF T σ c a0 i) 0 (0, σ) (by omega) (by omega) ⟨Fr.refl, rfl⟩ ?_ ?_
    · rintro n i ⟨x, σ'⟩ hi ⟨hf, hx⟩ hk
      have hf : Fr [120] [] σ σ' := hf
      have hx : x = shmF T σ c a0 i := hx
      have hC : CT T t σ' := h1.2.2.2.2.1.keep (fun c h1 h2 _ _ _ => hf.ne (by simp; omega))
      show Ok (X11_sham_4 (n + 1) a0 x (nI i) σ') _
      rw [X11_sham_4, hf.ne (a := 0) (by decide), h1.2.1, gT_ok ht, gT_ok ht, hC.1]
      refine ok_neg (by rw [ni_le (by omega) (by omega)]; omega) ?_
      refine ok_bind (ok_fr (fitC_ok (k := a0) hT ht hC hc (by rw [hf.ne (by decide)]; exact e1) (fun i hi => by rw [hf.ne (a := 116) (by decide)]; obtain ⟨h, g1, g2, -⟩ := (h5 i hi).2.1; exact ⟨h, g1, g2⟩) (fun i hi => by rw [hf.ne (a := 119) (by decide)]; exact (h5 i hi).2.2.2.2.2) hi) (fr_X8_fittingAims _ _ _ _ Fr.refl)) ?_
      rintro ⟨v, σ2⟩ ⟨⟨hv, -⟩, f2⟩
      have f2 : Fr [120] [] σ' σ2 := f2
      have hv : v = fsF T σ c i a0 (tN T) := by
        have : v = fsF T σ' c i a0 (tN T) := hv
        rw [this]
        exact fsF_congr (fun j g1 g2 => hf.ne (by simp; omega)) _
      unfold X11_sham_37
      show Ok (if v = 0 then _ else _) _
      refine ok_ite (fun z => ok_bv (ok_bv ?_)) (fun z => ok_bv ?_)
      · rw [ni_succ]
        refine hk (_, σ2) ⟨hf.trans f2, ?_⟩
        show x ||| (1 <<< (nI i &&& 31)) = shmF T σ c a0 (i + 1)
        unfold shmF
        rw [← hv, if_pos z, hx]
      · rw [ni_succ]
        refine hk (x, σ2) ⟨hf.trans f2, ?_⟩
        show x = shmF T σ c a0 (i + 1)
        unfold shmF
        rw [← hv, if_neg z, hx]
    · rintro n ⟨x, σ'⟩ ⟨hf, hx⟩
      have hf : Fr [120] [] σ σ' := hf
      have hC : CT T t σ' := h1.2.2.2.2.1.keep (fun c h1 h2 _ _ _ => hf.ne (by simp; omega))
      show Ok (X11_sham_4 (n + 1) a0 x (nI (tN T)) σ') _
      rw [X11_sham_4, hf.ne (a := 0) (by decide), h1.2.1, gT_ok ht, hC.1]
      exact ok_pos (Int32.le_refl _) (ok_some hx)
  · unfold X12_sham
    refine ok_bv (ok_bv ?_)
    have hM := h1.2.2.2.2.2.2.1
    refine ok_loop0 (F := fun n i (x : Int32) => X12_sham_4 n a0 x i ρ) (N := tN T) (I := fun i x => x = shmF T σ c a0 i) 0 0 (by omega) (by omega) rfl ?_ ?_
    · intro n i x hi hx hk
      show Ok (X12_sham_4 (n + 1) a0 x (nI i) ρ) _
      rw [X12_sham_4, hM.1]
      refine ok_neg (by rw [ni_le (by omega) (by omega)]; omega) ?_
      refine ok_bind (fitM_ok (k := a0) hT hM hc e2 h5 hi) ?_
      rintro _ rfl
      unfold X12_sham_29
      refine ok_ite (fun z => ok_bv (ok_bv ?_)) (fun z => ok_bv (ok_bv ?_))
      · rw [ni_succ]
        refine hk _ ?_
        show x ||| (1 <<< (nI i &&& 31)) = shmF T σ c a0 (i + 1)
        unfold shmF
        rw [if_pos z, hx]
      · rw [ni_succ]
        refine hk _ ?_
        show x ||| 0 = shmF T σ c a0 (i + 1)
        unfold shmF
        rw [if_neg z, hx, Int32.or_zero]
    · intro n x hx
      show Ok (X12_sham_4 (n + 1) a0 x (nI (tN T)) ρ) _
      rw [X12_sham_4, hM.1]
      exact ok_pos (Int32.le_refl _) (ok_some hx)
/-! ask -/
def twoB (T : Tn) (p : Nat) (x : Int32) (h a b : Nat) : Bool := tb x a && tb x b && decide (wayN T p a (h + 1) = wayN T p b (h + 1))
/-- how many are left at most, by the first i aims -/
def mstF (T : Tn) (p : Nat) (x : Int32) (h : Nat) : Nat → Int32
  | 0 => 0
  | a + 1 => if mstF T p x h a < nI (cnt (twoB T p x h a) (tN T)) then nI (cnt (twoB T p x h a) (tN T)) else mstF T p x h a
theorem two_bits (x : Int32) {a b : Nat} (ha : a < 32) (hb : b < 32) : ((x >>> (nI a &&& 31)) &&& (x >>> (nI b &&& 31))) &&& 1 = tr (tb x a && tb x b) := by
  have e : ((x >>> (nI a &&& 31)) &&& (x >>> (nI b &&& 31))) &&& 1 = ((x >>> (nI a &&& 31)) &&& 1) &&& ((x >>> (nI b &&& 31)) &&& 1) := by
    apply Int32.toBitVec_inj.mp
    simp only [Int32.toBitVec_and]
    apply BitVec.eq_of_getLsbD_eq
    intro i hi
    simp only [BitVec.getLsbD_and]
    cases (x >>> (nI a &&& 31)).toBitVec.getLsbD i <;> cases (x >>> (nI b &&& 31)).toBitVec.getLsbD i <;> cases (1 : Int32).toBitVec.getLsbD i <;> rfl
  rw [e, tb_shr x ha, tb_shr x hb]
  cases tb x a <;> cases tb x b <;> decide
theorem mostC_ok {T : Tn} {σ : Mem} {p h : Nat} {x : Int32} (hT : okT T) (hh : h < tD T) (hw : ∀ a h, a < tN T → h < tD T → σ.1 120 (24 * a + h) = wayN T p a (h + 1)) : Ok (X8_mostAtOnePlace (nI (tN T)) x (nI h) σ) (fun r => r = (mstF T p x h (tN T), σ)) := by
  have hn := hT.1
  have h24 := hT.2.2.1
  unfold X8_mostAtOnePlace
  refine ok_bv (ok_bv ?_)
  refine ok_loop0 (F := fun n i (y : Int32) => X8_mostAtOnePlace_6 n (nI (tN T)) x (nI h) y i σ) (N := tN T) (I := fun i y => y = mstF T p x h i) 0 0 (by omega) (by omega) rfl ?_ ?_
  · intro n a y ha hy hk
    show Ok (X8_mostAtOnePlace_6 (n + 1) (nI (tN T)) x (nI h) y (nI a) σ) _
    rw [X8_mostAtOnePlace_6]
    refine ok_neg (by rw [ni_le (by omega) (by omega)]; omega) (ok_bv (ok_bv ?_))
    refine ok_loop0 (F := fun m b (v : Int32) => X8_mostAtOnePlace_18 (X8_mostAtOnePlace_6 n) m (nI (tN T)) x (nI h) y (nI a) v b σ) (N := tN T) (I := fun b v => v = nI (cnt (twoB T p x h a) b)) 0 0 (by omega) (by omega) rfl ?_ ?_
    · intro m b v hb hv hk2
      show Ok (X8_mostAtOnePlace_18 (X8_mostAtOnePlace_6 n) (m + 1) (nI (tN T)) x (nI h) y (nI a) v (nI b) σ) _
      rw [X8_mostAtOnePlace_18, two_bits x (by omega) (by omega)]
      refine ok_neg (by rw [ni_le (by omega) (by omega)]; omega) ?_
      unfold X8_mostAtOnePlace_68
      have hskip : twoB T p x h a b = false → Ok (X8_mostAtOnePlace_18 (X8_mostAtOnePlace_6 n) m (nI (tN T)) x (nI h) y (nI a) v (nI b + 1) σ) (fun r => r = (mstF T p x h (tN T), σ)) := by
        intro hz
        rw [ni_succ]
        refine hk2 v ?_
        rw [hv, cnt_succ, hz]
        rfl
      refine ok_ite (fun z => ok_bv (hskip ?_)) (fun z => ?_)
      · rw [tr_ne] at z
        unfold twoB
        rw [z, Bool.false_and]
      · have z' : (tb x a && tb x b) = true := by rw [tr_ne] at z; simpa using z
        rw [show nI a * 24 + nI h = nI (24 * a + h) by rw [show (24 : Int32) = nI 24 from rfl, ni_mul, ni_add, Nat.mul_comm], show nI b * 24 + nI h = nI (24 * b + h) by rw [show (24 : Int32) = nI 24 from rfl, ni_mul, ni_add, Nat.mul_comm]]
        refine ok_pos (ib_t (by omega) (by omega)) (ok_pos (ib_t (by omega) (by omega)) ?_)
        rw [ni_cl (by omega), ni_cl (by omega), hw a h ha hh, hw b h hb hh]
        refine ok_ite (fun w => ok_bv (ok_bv ?_)) (fun w => ok_bv (hskip ?_))
        · rw [ni_succ]
          refine hk2 _ ?_
          have : twoB T p x h a b = true := by unfold twoB; rw [z', decide_eq_true w]; rfl
          rw [hv, cnt_succ, this]
          exact ni_succ _
        · unfold twoB
          rw [decide_eq_false w, Bool.and_false]
    · intro m v hv
      show Ok (X8_mostAtOnePlace_18 (X8_mostAtOnePlace_6 n) (m + 1) (nI (tN T)) x (nI h) y (nI a) v (nI (tN T)) σ) _
      rw [X8_mostAtOnePlace_18]
      refine ok_pos (Int32.le_refl _) (ok_bv (ok_bv ?_))
      rw [ni_succ]
      refine hk _ ?_
      show imax y v = mstF T p x h (a + 1)
      unfold imax mstF
      rw [hy, hv]
  · intro n y hy
    show Ok (X8_mostAtOnePlace_6 (n + 1) (nI (tN T)) x (nI h) y (nI (tN T)) σ) _
    rw [X8_mostAtOnePlace_6]
    refine ok_pos (Int32.le_refl _) (ok_some ?_)
    rw [hy]
theorem mostM_ok {T : Tn} {ρ : Mem} {p h : Nat} {x : Int32} (hT : okT T) (hM : MN T ρ) (hp : p < tN T) (hh : h < 100) : Ok (X12_mostAt (nI p) x (nI h) ρ) (fun r => r = (mstF T p x h (tN T), ρ)) := by
  have hn := hT.1
  unfold X12_mostAt
  refine ok_bv (ok_bv ?_)
  refine ok_loop0 (F := fun n i (y : Int32) => X12_mostAt_6 n (nI p) x (nI h) y i ρ) (N := tN T) (I := fun i y => y = mstF T p x h i) 0 0 (by omega) (by omega) rfl ?_ ?_
  · intro n a y ha hy hk
    show Ok (X12_mostAt_6 (n + 1) (nI p) x (nI h) y (nI a) ρ) _
    rw [X12_mostAt_6, hM.1]
    refine ok_neg (by rw [ni_le (by omega) (by omega)]; omega) (ok_bv (ok_bv ?_))
    refine ok_loop0 (F := fun m b (v : Int32) => X12_mostAt_21 (X12_mostAt_6 n) m (nI p) x (nI h) y (nI a) v b ρ) (N := tN T) (I := fun b v => v = nI (cnt (twoB T p x h a) b)) 0 0 (by omega) (by omega) rfl ?_ ?_
    · intro m b v hb hv hk2
      show Ok (X12_mostAt_21 (X12_mostAt_6 n) (m + 1) (nI p) x (nI h) y (nI a) v (nI b) ρ) _
      rw [X12_mostAt_21, two_bits x (by omega) (by omega), hM.1]
      refine ok_neg (by rw [ni_le (by omega) (by omega)]; omega) ?_
      have hgo : ∀ d : Bool, twoB T p x h a b = d → Ok (X12_mostAt_71 (X12_mostAt_21 (X12_mostAt_6 n) m) (nI p) x (nI h) y (nI a) (nI b) (tr d) v ρ) (fun r => r = (mstF T p x h (tN T), ρ)) := by
        intro d hd
        unfold X12_mostAt_71
        refine ok_bv (ok_bv ?_)
        rw [ni_succ]
        refine hk2 _ ?_
        show v + tr d = _
        rw [hv, ← hd]
        exact cntI
      refine ok_ite (fun z => ?_) (fun z => ?_)
      · have z' : (tb x a && tb x b) = true := by
          cases g : (tb x a && tb x b)
          · rw [g] at z
            exact absurd z (by decide)
          · rfl
        refine ok_bind (placeBy_ok hT hM hp ha hh) ?_
        rintro _ rfl
        refine ok_bind (placeBy_ok hT hM hp hb hh) ?_
        rintro _ rfl
        refine ok_ite (fun w => hgo true ?_) (fun w => hgo false ?_)
        · unfold twoB
          rw [z', decide_eq_true w]
          rfl
        · unfold twoB
          rw [decide_eq_false w, Bool.and_false]
      · refine hgo false ?_
        unfold twoB
        cases g : (tb x a && tb x b)
        · rfl
        · rw [g] at z
          exact absurd rfl z
    · intro m v hv
      show Ok (X12_mostAt_21 (X12_mostAt_6 n) (m + 1) (nI p) x (nI h) y (nI a) v (nI (tN T)) ρ) _
      rw [X12_mostAt_21, hM.1]
      refine ok_pos (Int32.le_refl _) ?_
      unfold X12_mostAt_94
      refine ok_ite (fun z => ok_bv ?_) (fun z => ok_bv ?_)
      · rw [ni_succ]
        refine hk _ ?_
        unfold mstF
        rw [← hy, ← hv, if_neg (Int32.not_lt.mpr z)]
      · rw [ni_succ]
        refine hk _ ?_
        unfold mstF
        rw [← hy, ← hv, if_pos (Int32.not_le.mp z)]
  · intro n y hy
    show Ok (X12_mostAt_6 (n + 1) (nI p) x (nI h) y (nI (tN T)) ρ) _
    rw [X12_mostAt_6, hM.1]
    refine ok_pos (Int32.le_refl _) (ok_some ?_)
    rw [hy]
def askB (T : Tn) (p : Nat) (x : Int32) : Nat → Nat
  | 0 => 0
  | m + 1 => if mstF T p x (m + 1) (tN T) < mstF T p x (askB T p x m) (tN T) then m + 1 else askB T p x m
theorem askB_le (T : Tn) (p : Nat) (x : Int32) : ∀ m, askB T p x m ≤ m
  | 0 => Nat.le_refl _
  | m + 1 => by
    unfold askB
    have := askB_le T p x m
    split <;> omega
theorem s_ask (a0 a1 a2 : Int32) : StpI Inv (X11_ask a0 a1 a2) (X12_ask a0 a1 a2) := by
  refine stpQ (fun σ => fr_X11_ask a0 a1 a2 σ Fr.refl) (fun σ => fr_X12_ask a0 a1 a2 σ Fr.refl) (by decide) (by decide) (fun σ ρ hI => ?_)
  obtain ⟨t, T, s, h1, h2, -, -, ⟨c, tm, hc, htm, e1, e2, e3, e4, h5⟩, -, -, -, -⟩ := hI
  show Eq2 _ _
  have hT := h1.2.2.2.1
  have hn := hT.1
  have h24 := hT.2.2.1
  have hd2 := hT.2.1
  have ht := h1.1
  have hM := h1.2.2.2.2.2.2.1
  unfold X11_ask X12_ask
  refine eq2_lbind (isPersonC_ok h1 a0) (eq2_rbind (isPersonM_ok h1 a0) ?_)
  cases hb : isP (tN T) a0 with
  | false => exact eq2_lpos rfl (eq2_rpos rfl (eq2_some rfl))
  | true =>
    obtain ⟨p, hp, rfl⟩ := isP_t hn hb
    obtain ⟨b, g1, g2, g3⟩ := zero1_ok a1 σ ρ
    refine eq2_lneg one_ne (eq2_rneg one_ne (eq2_lbind g1 (eq2_rbind g2 ?_)))
    cases b with
    | false => exact eq2_lpos rfl (eq2_rpos rfl (eq2_some rfl))
    | true =>
      refine eq2_lneg one_ne (eq2_rneg one_ne ?_)
      show Eq2 (gT (σ.1 0 12) _) _
      rw [h1.2.1, gT_ok ht]
      refine eq2_rokb (fitM_ok (k := a2) hT hM hc e2 h5 hp) ?_
      rintro _ rfl
      unfold X8_findHourToAsk
      -- the class's search
      have hC : ∀ (x : Int32) (σ1 : Mem), Fr [120] [] σ σ1 → x = fsF T σ c p a2 (tN T) → (∀ a h, a < tN T → h < tD T → σ1.1 120 (24 * a + h) = wayN T p a (h + 1)) → Ok (X8_findHourToAsk_22 t fu x 0 (sI (sI σ1 114 8 (-1)) 114 9 (-1))) (fun r => r.1 = (if x = 0 then 0 else 1) ∧ (x ≠ 0 → r.2.1 114 8 = nI (askB T p x (tD T - 1)) ∧ r.2.1 114 9 = mstF T p x (askB T p x (tD T - 1)) (tN T))) := by
        intro x σ1 f1 hx hw
        have hCT : ∀ σ2, Fr [120] [(114, 8), (114, 9)] σ σ2 → CT T t σ2 := fun σ2 f => h1.2.2.2.2.1.keep (fun a q1 q2 _ _ _ => by funext j; exact f.1 a j (by simp; omega) (by simp; omega))
        have f2 : Fr [120] [(114, 8), (114, 9)] σ (sI (sI σ1 114 8 (-1)) 114 9 (-1)) := frIk (frIk (f1.mono (fun a ha => ha) (fun a ha => by cases ha)) (.inl (.head _))) (.inl (.tail _ (.head _)))
        have h85 : ∀ σ2 : Mem, Ok (X8_findHourToAsk_85 t x σ2) (fun r => r.1 = (if x = 0 then 0 else 1) ∧ r.2 = σ2) := by
          intro σ2
          unfold X8_findHourToAsk_85
          refine ok_ite (fun z => ok_some ⟨?_, rfl⟩) (fun z => ok_some ⟨?_, rfl⟩)
          · rw [if_pos z]
          · rw [if_neg z]
        by_cases hx0 : x = 0
        · rw [show fu = 4999 + 1 from rfl, X8_findHourToAsk_22]
          refine ok_ite (fun _ => ok_mono (h85 _) (fun r hr => ⟨hr.1, fun q => absurd hx0 q⟩)) (fun _ => ok_pos hx0 (ok_mono (h85 _) (fun r hr => ⟨hr.1, fun q => absurd hx0 q⟩)))
        · refine ok_loop0 (F := fun n i σ => X8_findHourToAsk_22 t n x i σ) (N := tD T) (I := fun i σ2 => Fr [120] [(114, 8), (114, 9)] σ σ2 ∧ (∀ a h, a < tN T → h < tD T → σ2.1 120 (24 * a + h) = wayN T p a (h + 1)) ∧ (i = 0 → σ2.1 114 8 = -1) ∧ (∀ j, i = j + 1 → σ2.1 114 8 = nI (askB T p x j) ∧ σ2.1 114 9 = mstF T p x (askB T p x j) (tN T))) 0 _ (by omega) (by omega) ⟨f2, fun a h q1 q2 => by rw [sI_n (by decide), sI_n (by decide)]; exact hw a h q1 q2, fun _ => by rw [sI_k (by decide), sI_e], fun j hj => by omega⟩ ?_ ?_
          · rintro n i σ2 hi ⟨q1, q2, q3, q4⟩ hk
            have hct := hCT σ2 q1
            show Ok (X8_findHourToAsk_22 t (n + 1) x (nI i) σ2) _
            rw [X8_findHourToAsk_22, hct.2.1, hct.1]
            refine ok_neg (by rw [ni_le (by omega) (by omega)]; omega) (ok_neg hx0 ?_)
            refine ok_bind (mostC_ok (x := x) hT hi q2) ?_
            rintro _ rfl
            refine ok_bv ?_
            have set : ∀ σ', σ' = sI (sI σ2 114 8 (nI i)) 114 9 (mstF T p x i (tN T)) → (askB T p x i = i) → Ok (X8_findHourToAsk_79 t (X8_findHourToAsk_22 t n) x (nI i) σ') (fun r => r.1 = (if x = 0 then 0 else 1) ∧ (x ≠ 0 → r.2.1 114 8 = nI (askB T p x (tD T - 1)) ∧ r.2.1 114 9 = mstF T p x (askB T p x (tD T - 1)) (tN T))) := by
              rintro _ rfl ha
              unfold X8_findHourToAsk_79
              refine ok_bv ?_
              rw [ni_succ]
              refine hk _ ⟨frIk (frIk q1 (.inl (.head _))) (.inl (.tail _ (.head _))), fun a h r1 r2 => by rw [sI_n (by decide), sI_n (by decide)]; exact q2 a h r1 r2, fun h0 => by omega, fun j hj => ?_⟩
              have : j = i := by omega
              subst this
              rw [ha, sI_k (by decide), sI_e, sI_e]
              exact ⟨rfl, rfl⟩
            show Ok (if σ2.1 114 8 = -1 then X8_findHourToAsk_67 t _ x (nI i) (mstF T p x i (tN T)) σ2 else if σ2.1 114 9 ≤ mstF T p x i (tN T) then X8_findHourToAsk_79 t _ x (nI i) σ2 else X8_findHourToAsk_67 t _ x (nI i) (mstF T p x i (tN T)) σ2) _
            unfold X8_findHourToAsk_67
            match i, hi, q3, q4, set, hk with
            | 0, _, q3, _, set, _ => exact ok_pos (q3 rfl) (ok_bv (ok_bv (set _ rfl rfl)))
            | j + 1, hi, _, q4, set, hk =>
              obtain ⟨r1, r2⟩ := q4 j rfl
              have hle := askB_le T p x j
              rw [r1, r2]
              refine ok_neg (ni_ne_neg (by omega)) ?_
              refine ok_ite (fun z => ?_) (fun z => ?_)
              · unfold X8_findHourToAsk_79
                refine ok_bv ?_
                rw [ni_succ]
                refine hk _ ⟨q1, q2, fun h0 => by omega, fun j' hj' => ?_⟩
                have : j' = j + 1 := by omega
                subst this
                unfold askB
                rw [if_neg (Int32.not_lt.mpr z)]
                exact ⟨r1, r2⟩
              · refine ok_bv (ok_bv (set _ rfl ?_))
                unfold askB
                rw [if_pos (Int32.not_le.mp z)]
          · rintro n σ2 ⟨q1, q2, q3, q4⟩
            have hct := hCT σ2 q1
            show Ok (X8_findHourToAsk_22 t (n + 1) x (nI (tD T)) σ2) _
            rw [X8_findHourToAsk_22, hct.2.1]
            refine ok_pos (Int32.le_refl _) (ok_mono (h85 _) (fun r hr => ⟨hr.1, fun _ => ?_⟩))
            rw [hr.2]
            exact q4 (tD T - 1) (by omega)
      refine eq2_lokb (P := fun r => r.1 = (if fsF T σ c p a2 (tN T) = 0 then 0 else 1) ∧ (fsF T σ c p a2 (tN T) ≠ 0 → r.2.1 114 8 = nI (askB T p (fsF T σ c p a2 (tN T)) (tD T - 1)) ∧ r.2.1 114 9 = mstF T p (fsF T σ c p a2 (tN T)) (askB T p (fsF T σ c p a2 (tN T)) (tD T - 1)) (tN T))) ?_ ?_
      · refine ok_bind (ok_fr (fitC_ok (k := a2) hT ht h1.2.2.2.2.1 hc e1 (fun i hi => by obtain ⟨h, q1, q2, -⟩ := (h5 i hi).2.1; exact ⟨h, q1, q2⟩) (fun i hi => (h5 i hi).2.2.2.2.2) hp) (fr_X8_fittingAims _ _ _ _ Fr.refl)) ?_
        rintro ⟨x, σ1⟩ ⟨⟨hx, hw⟩, f1⟩
        have hx : x = fsF T σ c p a2 (tN T) := hx
        refine ok_bv (ok_bv (ok_bv (ok_bv ?_)))
        rw [← hx]
        exact hC x σ1 f1 hx hw
      · rintro ⟨r, σ2⟩ ⟨r1, r2⟩
        generalize fsF T σ c p a2 (tN T) = x at r1 r2
        have r1 : r = if x = 0 then 0 else 1 := r1
        show Eq2 (if r = 0 then _ else _) (bv x _)
        rw [bv_eq, r1]
        by_cases hx0 : x = 0
        · exact eq2_lpos (if_pos hx0) (eq2_rpos hx0 (eq2_some rfl))
        · refine eq2_lneg (by rw [if_neg hx0]; exact one_ne) (eq2_rneg hx0 ?_)
          obtain ⟨u1, u2⟩ := r2 hx0
          refine ⟨if a1 = 0 then nI (askB T p x (tD T - 1)) else mstF T p x (askB T p x (tD T - 1)) (tN T), ?_, ?_⟩
          · refine ok_ite (fun z => ok_some ?_) (fun z => ok_some ?_)
            · rw [if_pos z]
              exact u1
            · rw [if_neg z]
              exact u2
          · refine ok_bv (ok_bv ?_)
            refine ok_loop0 (F := fun n i (y : Int32) => X12_ask_40 n (nI p) a1 x y i ρ) (N := tD T) (I := fun i y => ∃ j, i = j + 1 ∧ y = nI (askB T p x j)) 1 0 (by omega) (by omega) ⟨0, rfl, rfl⟩ ?_ ?_
            · rintro n i y hi ⟨j, rfl, hy⟩ hk
              have hle := askB_le T p x j
              show Ok (X12_ask_40 (n + 1) (nI p) a1 x y (nI (j + 1)) ρ) _
              rw [X12_ask_40, hM.2.1, hy]
              refine ok_neg (by rw [ni_le (by omega) (by omega)]; omega) ?_
              refine ok_bind (mostM_ok (x := x) hT hM hp (show j + 1 < 100 by omega)) ?_
              rintro _ rfl
              refine ok_bind (mostM_ok (x := x) hT hM hp (show askB T p x j < 100 by omega)) ?_
              rintro _ rfl
              unfold X12_ask_74
              refine ok_ite (fun z => ok_bv ?_) (fun z => ok_bv ?_)
              · rw [ni_succ]
                refine hk _ ⟨j + 1, rfl, ?_⟩
                show nI (askB T p x j) = nI (askB T p x (j + 1))
                rw [show askB T p x (j + 1) = if mstF T p x (j + 1) (tN T) < mstF T p x (askB T p x j) (tN T) then j + 1 else askB T p x j from rfl, if_neg (Int32.not_lt.mpr z)]
              · rw [ni_succ]
                refine hk _ ⟨j + 1, rfl, ?_⟩
                rw [show askB T p x (j + 1) = if mstF T p x (j + 1) (tN T) < mstF T p x (askB T p x j) (tN T) then j + 1 else askB T p x j from rfl, if_pos (Int32.not_le.mp z)]
            · rintro n y ⟨j, hj, hy⟩
              have hle := askB_le T p x j
              have hjd : tD T - 1 = j := by omega
              show Ok (X12_ask_40 (n + 1) (nI p) a1 x y (nI (tD T)) ρ) _
              rw [X12_ask_40, hM.2.1, hjd, hy]
              refine ok_pos (Int32.le_refl _) (ok_ite (fun z => ok_some ?_) (fun z => ?_))
              · rw [if_pos z]
              · refine ok_bind (mostM_ok (x := x) hT hM hp (show askB T p x j < 100 by omega)) ?_
                rintro _ rfl
                refine ok_some ?_
                rw [if_neg z]
