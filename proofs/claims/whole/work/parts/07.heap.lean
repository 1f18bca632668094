/-! the memory of the plain machine stays that of the machine -/
theorem zer.mv {ws ws' : va_W} {tys tys' : List (ClassId × FieldType)} {M M' : zM} {a : Nat} {e : va_E} (hx : zx ws ws') (ht : ∀ q ∈ tys, q ∈ tys') (hI : ∀ f, mI M' f a = mI M f a) (hR : ∀ f, mR M' f a = mR M f a) (hA : ∀ j, mA M' a j = mA M a j) (hO : ∀ j, mO M' a j = mO M a j) (hC : mC M' a = mC M a) (hN : mN M' a = mN M a) (h : zer ws tys M a e) : zer ws' tys' M' a e := by
  rcases e with ⟨cA, n, f | f | f | f | f⟩ | o
  · obtain ⟨h1, h2, h3⟩ := h
    refine ⟨by rw [hN]; exact h1, ?_, fun j => by rw [hA]; exact h3 j⟩
    rw [hC]
    exact h2.imp (fun q => ⟨q.1, ht _ q.2⟩) (fun q => q.imp (fun q => ⟨q.1, ht _ q.2⟩) (fun q => ⟨q.1, ht _ q.2⟩))
  · obtain ⟨h1, h2, h3⟩ := h
    exact ⟨by rw [hN]; exact h1, by rw [hC]; exact ⟨h2.1, ht _ h2.2⟩, fun j => by rw [hA]; exact h3 j⟩
  · exact h.elim
  · exact h.elim
  · obtain ⟨h1, h2, h3⟩ := h
    refine ⟨by rw [hN]; exact h1, ?_, fun j => by rw [hO]; exact (h3 j).mv hx⟩
    rw [hC]
    exact h2.imp (fun q => ⟨q.1, ht _ q.2⟩) (fun ⟨ci, c1, c2, c3⟩ => ⟨ci, c1, c2, ht _ c3⟩)
  · obtain ⟨h1, h2, h3, h4⟩ := h
    refine ⟨by rw [hC]; exact h1, h2, h3, fun k hk => ?_⟩
    obtain ⟨w, w1, w2⟩ := h4 k hk
    refine ⟨w, w1, ?_⟩
    rw [hR, hI]
    split
    · rename_i hq
      rw [if_pos hq] at w2
      exact w2.mv hx
    · rename_i hq
      rw [if_neg hq] at w2
      exact w2
theorem zH.at {M : zM} {ws : va_W} {tys : List (ClassId × FieldType)} (h : zH M ws tys) {a : Nat} (ha : mC M a ≠ 0) : ∃ (i : Nat) (q : Nat × va_E), a = i + 1 ∧ ws[i]? = some q ∧ zer ws tys M a q.2 := by
  have h0 : a ≠ 0 := fun e => ha (h.2.2 a (Or.inl e))
  have h1 : a ≤ ws.length := Nat.not_lt.mp fun e => ha (h.2.2 a (Or.inr e))
  have h2 : a - 1 < ws.length := by omega
  refine ⟨a - 1, ws[a - 1], by omega, List.getElem?_eq_getElem h2, ?_⟩
  have := h.2.1 (a - 1) ws[a - 1] (List.getElem?_eq_getElem h2)
  rwa [show a - 1 + 1 = a by omega] at this
/-- an object -/
theorem zH.obj {M : zM} {ws : va_W} {tys : List (ClassId × FieldType)} (h : zH M ws tys) {a ci : Nat} (ha : mC M a = ci + 1) (hc : ci < 13) : ∃ (i ad : Nat) (fs : List Value), a = i + 1 ∧ ws[i]? = some (ad, .inr (ci, fs)) ∧ fs.length = zN ci ∧ ∀ k, k < zN ci → ∃ w : Value, fs[k]? = some w ∧ (if zisq (zty ci k) = true then zrr ws (mR M (64 * ci + k) a) w else ∃ x : Int32, w = .int x ∧ x.toInt = mI M (64 * ci + k) a) := by
  obtain ⟨i, ⟨ad, e⟩, h1, h2, h3⟩ := h.at (a := a) (by omega)
  rcases e with ⟨cA, n, f | f | f | f | f⟩ | ⟨c, fs⟩
  · obtain ⟨-, (q | q | q), -⟩ := h3 <;> omega
  · obtain ⟨-, q, -⟩ := h3; omega
  · exact h3.elim
  · exact h3.elim
  · obtain ⟨-, (q | ⟨_, _, q, -⟩), -⟩ := h3 <;> omega
  · obtain ⟨g1, g2, g3, g4⟩ := h3
    have : c = ci := by omega
    subst this
    exact ⟨i, ad, fs, h1, h2, g3, g4⟩
/-- an array of ints (kind 20, 21, 22) -/
theorem zH.ia {M : zM} {ws : va_W} {tys : List (ClassId × FieldType)} (h : zH M ws tys) {a : Nat} {ty : FieldType} (ha : (mC M a = 20 ∧ ty = .int) ∨ (mC M a = 21 ∧ ty = .boolean) ∨ (mC M a = 22 ∧ ty = .byte)) : ∃ (i ad : Nat) (cA : ClassId) (f : Nat → Int32) (t : Nat), a = i + 1 ∧ ws[i]? = some (ad, .inl (cA, mN M a, .inl f)) ∧ tys[t]? = some (cA, ty) ∧ ∀ j : Nat, (f j).toInt = mA M a j := by
  obtain ⟨i, ⟨ad, e⟩, h1, h2, h3⟩ := h.at (a := a) (by rcases ha with q | q | q <;> omega)
  rcases e with ⟨cA, n, f | f | f | f | f⟩ | ⟨c, fs⟩
  · obtain ⟨g1, g2, g3⟩ := h3
    have ht : (cA, ty) ∈ tys := by
      rcases ha with ⟨q, rfl⟩ | ⟨q, rfl⟩ | ⟨q, rfl⟩ <;> rcases g2 with ⟨p, s⟩ | ⟨p, s⟩ | ⟨p, s⟩ <;> first | exact s | omega
    obtain ⟨t, ht⟩ := List.getElem?_of_mem ht
    exact ⟨i, ad, cA, f, t, h1, by rw [g1]; exact h2, ht, g3⟩
  · obtain ⟨-, q, -⟩ := h3; omega
  · exact h3.elim
  · exact h3.elim
  · obtain ⟨-, (q | ⟨_, _, q, -⟩), -⟩ := h3 <;> omega
  · obtain ⟨g1, g2, -⟩ := h3
    have g1 : mC M a = c + 1 := g1
    have g2 : c < 13 := g2
    omega
theorem zH.la {M : zM} {ws : va_W} {tys : List (ClassId × FieldType)} (h : zH M ws tys) {a : Nat} (ha : mC M a = 23) : ∃ (i ad : Nat) (cA : ClassId) (f : Nat → Int64) (t : Nat), a = i + 1 ∧ ws[i]? = some (ad, .inl (cA, mN M a, .inr (.inl f))) ∧ tys[t]? = some (cA, .long) ∧ ∀ j : Nat, (f j).toInt = mA M a j := by
  obtain ⟨i, ⟨ad, e⟩, h1, h2, h3⟩ := h.at (a := a) (by omega)
  rcases e with ⟨cA, n, f | f | f | f | f⟩ | ⟨c, fs⟩
  · obtain ⟨-, (q | q | q), -⟩ := h3 <;> omega
  · obtain ⟨g1, g2, g3⟩ := h3
    obtain ⟨t, ht⟩ := List.getElem?_of_mem g2.2
    exact ⟨i, ad, cA, f, t, h1, by rw [g1]; exact h2, ht, g3⟩
  · exact h3.elim
  · exact h3.elim
  · obtain ⟨-, (q | ⟨_, _, q, -⟩), -⟩ := h3 <;> omega
  · obtain ⟨g1, g2, -⟩ := h3
    have g1 : mC M a = c + 1 := g1
    have g2 : c < 13 := g2
    omega
theorem zH.qa {M : zM} {ws : va_W} {tys : List (ClassId × FieldType)} (h : zH M ws tys) {a : Nat} (ha : 29 ≤ mC M a) : ∃ (i ad : Nat) (cA : ClassId) (f : Nat → Option Nat) (t : Nat) (ty : FieldType), a = i + 1 ∧ ws[i]? = some (ad, .inl (cA, mN M a, .inr (.inr (.inr (.inr f))))) ∧ tys[t]? = some (cA, ty) ∧ ((mC M a = 29 ∧ ty = .array .int) ∨ ∃ ci : Nat, ci < 13 ∧ mC M a = 30 + ci ∧ ty = .object (zcn ci)) ∧ ∀ j : Nat, zrr ws (mO M a j) (va_rf (f j)) := by
  obtain ⟨i, ⟨ad, e⟩, h1, h2, h3⟩ := h.at (a := a) (by omega)
  rcases e with ⟨cA, n, f | f | f | f | f⟩ | ⟨c, fs⟩
  · obtain ⟨-, (q | q | q), -⟩ := h3 <;> omega
  · obtain ⟨-, q, -⟩ := h3; omega
  · exact h3.elim
  · exact h3.elim
  · obtain ⟨g1, g2, g3⟩ := h3
    rcases g2 with ⟨q, s⟩ | ⟨ci, c1, c2, s⟩
    · obtain ⟨t, ht⟩ := List.getElem?_of_mem s
      exact ⟨i, ad, cA, f, t, _, h1, by rw [g1]; exact h2, ht, Or.inl ⟨q, rfl⟩, g3⟩
    · obtain ⟨t, ht⟩ := List.getElem?_of_mem s
      exact ⟨i, ad, cA, f, t, _, h1, by rw [g1]; exact h2, ht, Or.inr ⟨ci, c1, c2, rfl⟩, g3⟩
  · obtain ⟨g1, g2, -⟩ := h3
    have g1 : mC M a = c + 1 := g1
    have g2 : c < 13 := g2
    omega
/-- one cell changed -/
theorem zH.one {M M' : zM} {ws : va_W} {tys : List (ClassId × FieldType)} {i : Nat} {q q' : Nat × va_E} (h : zH M ws tys) (hq : ws[i]? = some q) (he : q'.1 = q.1) (hz : mz M' = mz M) (hC : ∀ a, mC M' a = mC M a) (hoff : ∀ a, a ≠ i + 1 → (∀ f, mI M' f a = mI M f a) ∧ (∀ f, mR M' f a = mR M f a) ∧ (∀ j, mA M' a j = mA M a j) ∧ (∀ j, mO M' a j = mO M a j) ∧ mN M' a = mN M a) (hon : zer (ws.set i q') tys M' (i + 1) q'.2) : zH M' (ws.set i q') tys := by
  refine ⟨by rw [hz, List.length_set]; exact h.1, fun j p hj => ?_, fun a ha => by rw [hC]; exact h.2.2 a (by rwa [List.length_set] at ha)⟩
  rw [List.getElem?_set] at hj
  by_cases e : i = j
  · subst e
    rw [if_pos rfl, if_pos (List.getElem?_eq_some_iff.mp hq).1] at hj
    cases hj
    exact hon
  · rw [if_neg e] at hj
    obtain ⟨o1, o2, o3, o4, o5⟩ := hoff (j + 1) (by omega)
    exact (h.2.1 j p hj).mv (zx.set hq he) (fun _ h => h) o1 o2 o3 o4 (hC _) o5
theorem zH_sI {M : zM} {ws : va_W} {tys : List (ClassId × FieldType)} (h : zH M ws tys) {i ad ci k : Nat} {fs : List Value} {v : Int} {x : Int32} (hw : ws[i]? = some (ad, .inr (ci, fs))) (hk : k < zN ci) (hq : zisq (zty ci k) = false) (hx : x.toInt = v) : zH (sI M (64 * ci + k) (i + 1) v) (ws.set i (ad, .inr (ci, fs.set k (.int x)))) tys := by
  refine h.one (q' := (ad, .inr (ci, fs.set k (.int x)))) hw rfl rfl (fun _ => rfl) (fun a ha => ⟨fun f => ?_, fun _ => rfl, fun _ => rfl, fun _ => rfl, rfl⟩) ?_
  · show (if f = _ ∧ a = _ then _ else _) = _
    rw [if_neg (fun q => ha q.2)]
  · obtain ⟨g1, g2, g3, g4⟩ := h.2.1 i _ hw
    refine ⟨g1, g2, by rw [← g3]; simp, fun k' hk' => ?_⟩
    by_cases e : k' = k
    · subst e
      refine ⟨.int x, ?_, ?_⟩
      · show (fs.set k' (.int x))[k']? = _
        rw [List.getElem?_set, if_pos rfl, if_pos (by rw [show fs.length = zN ci from g3]; exact hk)]
      · show if zisq (zty ci k') = true then _ else _
        rw [if_neg (by rw [hq]; decide)]
        refine ⟨x, rfl, ?_⟩
        show x.toInt = if _ then _ else _
        rw [if_pos ⟨rfl, rfl⟩]; exact hx
    · obtain ⟨w, w1, w2⟩ := g4 k' hk'
      refine ⟨w, ?_, ?_⟩
      · show (fs.set k (.int x))[k']? = _
        rw [List.getElem?_set, if_neg (fun q => e q.symm)]; exact w1
      · have e1 : mI (sI M (64 * ci + k) (i + 1) v) (64 * ci + k') (i + 1) = mI M (64 * ci + k') (i + 1) := by
          show (if _ then _ else _) = _
          rw [if_neg (fun q => e (by omega))]
        show if zisq (zty ci k') = true then zrr _ (mR M (64 * ci + k') (i + 1)) w else ∃ y : Int32, w = .int y ∧ y.toInt = mI (sI M (64 * ci + k) (i + 1) v) (64 * ci + k') (i + 1)
        rw [e1]
        by_cases z : zisq (zty ci k') = true
        · rw [if_pos z] at w2 ⊢; exact w2.mv (zx.set hw rfl)
        · rw [if_neg z] at w2 ⊢; exact w2

theorem zH_sR {M : zM} {ws : va_W} {tys : List (ClassId × FieldType)} (h : zH M ws tys) {i ad ci k : Nat} {fs : List Value} {v : Nat} {x : Value} (hw : ws[i]? = some (ad, .inr (ci, fs))) (hk : k < zN ci) (hq : zisq (zty ci k) = true) (hx : zrr ws v x) : zH (sR M (64 * ci + k) (i + 1) v) (ws.set i (ad, .inr (ci, fs.set k x))) tys := by
  refine h.one (q' := (ad, .inr (ci, fs.set k x))) hw rfl rfl (fun _ => rfl) (fun a ha => ⟨fun _ => rfl, fun f => ?_, fun _ => rfl, fun _ => rfl, rfl⟩) ?_
  · show (if f = _ ∧ a = _ then _ else _) = _
    rw [if_neg (fun q => ha q.2)]
  · obtain ⟨g1, g2, g3, g4⟩ := h.2.1 i _ hw
    refine ⟨g1, g2, by rw [← g3]; simp, fun k' hk' => ?_⟩
    by_cases e : k' = k
    · subst e
      refine ⟨x, ?_, ?_⟩
      · show (fs.set k' x)[k']? = _
        rw [List.getElem?_set, if_pos rfl, if_pos (by rw [show fs.length = zN ci from g3]; exact hk)]
      · show if zisq (zty ci k') = true then _ else _
        rw [if_pos hq]
        have e1 : mR (sR M (64 * ci + k') (i + 1) v) (64 * ci + k') (i + 1) = v := by
          show (if _ then _ else _) = _
          rw [if_pos ⟨rfl, rfl⟩]
        rw [e1]
        exact hx.mv (zx.set hw rfl)
    · obtain ⟨w, w1, w2⟩ := g4 k' hk'
      refine ⟨w, ?_, ?_⟩
      · show (fs.set k x)[k']? = _
        rw [List.getElem?_set, if_neg (fun q => e q.symm)]; exact w1
      · have e1 : mR (sR M (64 * ci + k) (i + 1) v) (64 * ci + k') (i + 1) = mR M (64 * ci + k') (i + 1) := by
          show (if _ then _ else _) = _
          rw [if_neg (fun q => e (by omega))]
        show if zisq (zty ci k') = true then zrr _ (mR (sR M (64 * ci + k) (i + 1) v) (64 * ci + k') (i + 1)) w else ∃ y : Int32, w = .int y ∧ y.toInt = mI M (64 * ci + k') (i + 1)
        rw [e1]
        by_cases z : zisq (zty ci k') = true
        · rw [if_pos z] at w2 ⊢; exact w2.mv (zx.set hw rfl)
        · rw [if_neg z] at w2 ⊢; exact w2
/-- a cell of an array of ints -/
theorem zH_sA {M : zM} {ws : va_W} {tys : List (ClassId × FieldType)} (h : zH M ws tys) {i ad cA n j : Nat} {f : Nat → Int32} {v : Int} {x : Int32} (hw : ws[i]? = some (ad, .inl (cA, n, .inl f))) (hx : x.toInt = v) : zH (sA M (i + 1) j v) (ws.set i (ad, .inl (cA, n, .inl (upd f j x)))) tys := by
  refine h.one (q' := (ad, .inl (cA, n, .inl (upd f j x)))) hw rfl rfl (fun _ => rfl) (fun a ha => ⟨fun _ => rfl, fun _ => rfl, fun k => ?_, fun _ => rfl, rfl⟩) ?_
  · show (if a = _ ∧ k = _ then _ else _) = _
    rw [if_neg (fun q => ha q.1)]
  · obtain ⟨g1, g2, g3⟩ := h.2.1 i _ hw
    refine ⟨g1, g2, fun k => ?_⟩
    show (if k = j then x else f k).toInt = if i + 1 = i + 1 ∧ k = j then v else mA M (i + 1) k
    by_cases e : k = j
    · rw [if_pos e, if_pos ⟨rfl, e⟩]; exact hx
    · rw [if_neg e, if_neg (fun q => e q.2)]; exact g3 k
theorem zH_sL {M : zM} {ws : va_W} {tys : List (ClassId × FieldType)} (h : zH M ws tys) {i ad cA n j : Nat} {f : Nat → Int64} {v : Int} {x : Int64} (hw : ws[i]? = some (ad, .inl (cA, n, .inr (.inl f)))) (hx : x.toInt = v) : zH (sA M (i + 1) j v) (ws.set i (ad, .inl (cA, n, .inr (.inl (vp_updL f j x))))) tys := by
  refine h.one (q' := (ad, .inl (cA, n, .inr (.inl (vp_updL f j x))))) hw rfl rfl (fun _ => rfl) (fun a ha => ⟨fun _ => rfl, fun _ => rfl, fun k => ?_, fun _ => rfl, rfl⟩) ?_
  · show (if a = _ ∧ k = _ then _ else _) = _
    rw [if_neg (fun q => ha q.1)]
  · obtain ⟨g1, g2, g3⟩ := h.2.1 i _ hw
    refine ⟨g1, g2, fun k => ?_⟩
    show (if k = j then x else f k).toInt = if i + 1 = i + 1 ∧ k = j then v else mA M (i + 1) k
    by_cases e : k = j
    · rw [if_pos e, if_pos ⟨rfl, e⟩]; exact hx
    · rw [if_neg e, if_neg (fun q => e q.2)]; exact g3 k
theorem zH_sO {M : zM} {ws : va_W} {tys : List (ClassId × FieldType)} (h : zH M ws tys) {i ad cA n j : Nat} {f : Nat → Option Nat} {v : Nat} {x : Option Nat} (hw : ws[i]? = some (ad, .inl (cA, n, .inr (.inr (.inr (.inr f)))))) (hx : zrr ws v (va_rf x)) : zH (sO M (i + 1) j v) (ws.set i (ad, .inl (cA, n, .inr (.inr (.inr (.inr (va_up f j x))))))) tys := by
  refine h.one (q' := (ad, .inl (cA, n, .inr (.inr (.inr (.inr (va_up f j x))))))) hw rfl rfl (fun _ => rfl) (fun a ha => ⟨fun _ => rfl, fun _ => rfl, fun _ => rfl, fun k => ?_, rfl⟩) ?_
  · show (if a = _ ∧ k = _ then _ else _) = _
    rw [if_neg (fun q => ha q.1)]
  · obtain ⟨g1, g2, g3⟩ := h.2.1 i _ hw
    refine ⟨g1, g2, fun k => ?_⟩
    show zrr _ (if i + 1 = i + 1 ∧ k = j then v else mO M (i + 1) k) (va_rf (if k = j then x else f k))
    by_cases e : k = j
    · rw [if_pos e, if_pos ⟨rfl, e⟩]; exact hx.mv (zx.set hw rfl)
    · rw [if_neg e, if_neg (fun q => e q.2)]; exact (g3 k).mv (zx.set hw rfl)
theorem zH_cpA {M : zM} {ws : va_W} {tys : List (ClassId × FieldType)} (h : zH M ws tys) {i i0 ad0 ad cA0 cA n0 n sp dp m : Nat} {f g : Nat → Int32} (hw0 : ws[i0]? = some (ad0, .inl (cA0, n0, .inl f))) (hw : ws[i]? = some (ad, .inl (cA, n, .inl g))) : zH (cpA M (i0 + 1) sp (i + 1) dp m) (ws.set i (ad, .inl (cA, n, .inl (va_cpy f g sp dp m)))) tys := by
  refine h.one (q' := (ad, .inl (cA, n, .inl (va_cpy f g sp dp m)))) hw rfl rfl (fun _ => rfl) (fun a ha => ⟨fun _ => rfl, fun _ => rfl, fun k => ?_, fun _ => rfl, rfl⟩) ?_
  · show (if a = _ ∧ _ then _ else _) = _
    rw [if_neg (fun q => ha q.1)]
  · obtain ⟨g1, g2, g3⟩ := h.2.1 i _ hw
    obtain ⟨-, -, f3⟩ := h.2.1 i0 _ hw0
    refine ⟨g1, g2, fun k => ?_⟩
    show (if dp ≤ k ∧ k < dp + m then f (sp + (k - dp)) else g k).toInt = if i + 1 = i + 1 ∧ dp ≤ k ∧ k < dp + m then mA M (i0 + 1) (sp + (k - dp)) else mA M (i + 1) k
    by_cases e : dp ≤ k ∧ k < dp + m
    · rw [if_pos e, if_pos ⟨rfl, e⟩]; exact f3 _
    · rw [if_neg e, if_neg (fun q => e q.2)]; exact g3 k
theorem zH_nwX {M : zM} {ws : va_W} {tys : List (ClassId × FieldType)} (h : zH M ws tys) : zH (nwX M) ws tys := ⟨h.1, fun i q hq => (h.2.1 i q hq).mv zx.rf (fun _ h => h) (fun _ => rfl) (fun _ => rfl) (fun _ => rfl) (fun _ => rfl) rfl rfl, h.2.2⟩
/-- cells more -/
theorem zH.more {M M' : zM} {ws l : va_W} {tys t2 : List (ClassId × FieldType)} (h : zH M ws tys) (hz : mz M' = mz M + l.length) (hoff : ∀ a, a < mz M → (∀ f, mI M' f a = mI M f a) ∧ (∀ f, mR M' f a = mR M f a) ∧ (∀ j, mA M' a j = mA M a j) ∧ (∀ j, mO M' a j = mO M a j) ∧ mC M' a = mC M a ∧ mN M' a = mN M a) (hon : ∀ (i : Nat) (q : Nat × va_E), l[i]? = some q → zer (ws ++ l) (tys ++ t2) M' (mz M + i) q.2) (hbe : ∀ a, mz M + l.length ≤ a → mC M' a = mC M a) : zH M' (ws ++ l) (tys ++ t2) := by
  have hz0 := h.1
  refine ⟨by rw [hz, hz0, List.length_append]; omega, fun i q hi => ?_, fun a ha => ?_⟩
  · by_cases e : i < ws.length
    · rw [List.getElem?_append_left e] at hi
      obtain ⟨o1, o2, o3, o4, o5, o6⟩ := hoff (i + 1) (by omega)
      exact (h.2.1 i q hi).mv zx.app (fun _ h => List.mem_append_left _ h) o1 o2 o3 o4 o5 o6
    · rw [List.getElem?_append_right (by omega)] at hi
      have := hon _ q hi
      rwa [show mz M + (i - ws.length) = i + 1 by omega] at this
  · rw [List.length_append] at ha
    rcases ha with rfl | ha
    · rw [(hoff 0 (by omega)).2.2.2.2.1]; exact h.2.2 0 (Or.inl rfl)
    · rw [hbe a (by omega)]; exact h.2.2 a (Or.inr (by omega))
theorem zH_nwO {M : zM} {ws : va_W} {tys : List (ClassId × FieldType)} (h : zH M ws tys) {ad ci : Nat} {fs : List Value} (hc : ci < 13) (hl : fs.length = zN ci) (hf : ∀ k, k < zN ci → ∃ w : Value, fs[k]? = some w ∧ w = defaultValue (zty ci k)) (hd : ∀ k, k < zN ci → (zisq (zty ci k) = true ∧ defaultValue (zty ci k) = .null) ∨ (zisq (zty ci k) = false ∧ defaultValue (zty ci k) = .int 0)) : zH (nwO M ci (zN ci)) (ws ++ [(ad, .inr (ci, fs))]) tys := by
  have := h.more (M' := nwO M ci (zN ci)) (l := [(ad, .inr (ci, fs))]) (t2 := []) rfl (fun a ha => ?_) (fun i q hi => ?_) (fun a ha => ?_)
  · rwa [List.append_nil] at this
  · have hne : a ≠ mz M := by omega
    refine ⟨fun f => ?_, fun f => ?_, fun _ => rfl, fun _ => rfl, ?_, rfl⟩
    · show (if a = mz M then _ else _) = _
      rw [if_neg hne]
    · show (if a = mz M then _ else _) = _
      rw [if_neg hne]
    · show (if a = mz M then _ else _) = _
      rw [if_neg hne]
  · have h0 : i = 0 := by
      have := (List.getElem?_eq_some_iff.mp hi).1
      simp at this; omega
    subst h0
    cases hi
    refine ⟨?_, hc, hl, fun k hk => ?_⟩
    · show (if mz M + 0 = mz M then ci + 1 else _) = _
      rw [if_pos (by omega)]
    · obtain ⟨w, w1, w2⟩ := hf k hk
      refine ⟨w, w1, ?_⟩
      rcases hd k hk with ⟨d1, d2⟩ | ⟨d1, d2⟩
      · rw [if_pos d1]
        refine Or.inl ⟨?_, by rw [w2, d2]⟩
        show (if mz M + 0 = mz M then _ else _) = _
        rw [if_pos (by omega)]
      · rw [if_neg (by rw [d1]; decide)]
        refine ⟨0, by rw [w2, d2], ?_⟩
        show _ = (if mz M + 0 = mz M then _ else _)
        rw [if_pos (by omega)]; rfl
  · have hne : a ≠ mz M := by have h9 : mz M + 1 ≤ a := ha; omega
    show (if a = mz M then _ else _) = _
    rw [if_neg hne]
theorem zH_nwA {M : zM} {ws : va_W} {tys : List (ClassId × FieldType)} (h : zH M ws tys) {ad kd n : Nat} {cA : ClassId} {ty : FieldType} {x : (Nat → Int32) ⊕ (Nat → Int64) ⊕ (Nat → UInt32) ⊕ (Nat → UInt64) ⊕ (Nat → Option Nat)} (hk : (kd = 20 ∧ ty = .int ∧ x = .inl (fun _ => 0)) ∨ (kd = 21 ∧ ty = .boolean ∧ x = .inl (fun _ => 0)) ∨ (kd = 22 ∧ ty = .byte ∧ x = .inl (fun _ => 0)) ∨ (kd = 23 ∧ ty = .long ∧ x = .inr (.inl (fun _ => 0))) ∨ (∃ ci, ci < 13 ∧ kd = 30 + ci ∧ ty = .object (zcn ci) ∧ x = .inr (.inr (.inr (.inr (fun _ => none)))))) : zH (nwA M kd n) (ws ++ [(ad, .inl (cA, n, x))]) (tys ++ [(cA, ty)]) := by
  refine h.more (M' := nwA M kd n) (l := [(ad, .inl (cA, n, x))]) rfl (fun a ha => ?_) (fun i q hi => ?_) (fun a ha => ?_)
  · have hne : a ≠ mz M := by omega
    refine ⟨fun _ => rfl, fun _ => rfl, fun j => ?_, fun j => ?_, ?_, ?_⟩ <;> (show (if a = mz M then _ else _) = _; rw [if_neg hne])
  · have h0 : i = 0 := by
      have := (List.getElem?_eq_some_iff.mp hi).1
      simp at this; omega
    subst h0
    cases hi
    have eN : mN (nwA M kd n) (mz M + 0) = n := by show (if mz M + 0 = mz M then _ else _) = _; rw [if_pos (by omega)]
    have eC : mC (nwA M kd n) (mz M + 0) = kd := by show (if mz M + 0 = mz M then _ else _) = _; rw [if_pos (by omega)]
    have eA : ∀ j, mA (nwA M kd n) (mz M + 0) j = 0 := fun j => by show (if mz M + 0 = mz M then _ else _) = _; rw [if_pos (by omega)]
    have eO : ∀ j, mO (nwA M kd n) (mz M + 0) j = 0 := fun j => by show (if mz M + 0 = mz M then _ else _) = _; rw [if_pos (by omega)]
    have hm : (cA, ty) ∈ tys ++ [(cA, ty)] := List.mem_append_right _ (List.mem_singleton.mpr rfl)
    rcases hk with ⟨rfl, rfl, rfl⟩ | ⟨rfl, rfl, rfl⟩ | ⟨rfl, rfl, rfl⟩ | ⟨rfl, rfl, rfl⟩ | ⟨ci, hci, rfl, rfl, rfl⟩
    · exact ⟨eN, Or.inl ⟨eC, hm⟩, fun j => (eA j).symm⟩
    · exact ⟨eN, Or.inr (Or.inl ⟨eC, hm⟩), fun j => (eA j).symm⟩
    · exact ⟨eN, Or.inr (Or.inr ⟨eC, hm⟩), fun j => (eA j).symm⟩
    · exact ⟨eN, ⟨eC, hm⟩, fun j => (eA j).symm⟩
    · exact ⟨eN, Or.inr ⟨ci, hci, eC, hm⟩, fun j => Or.inl ⟨eO j, rfl⟩⟩
  · have hne : a ≠ mz M := by have h9 : mz M + 1 ≤ a := ha; omega
    show (if a = mz M then _ else _) = _
    rw [if_neg hne]
/-- new int[n][k] -/
theorem zH_nwB {M : zM} {ws : va_W} {tys : List (ClassId × FieldType)} (h : zH M ws tys) {q n k : Nat} {r : Nat → Nat} {cA cy : ClassId} : zH (nwB M n k) (ws ++ ((q, .inl (cA, n, .inr (.inr (.inr (.inr (fun i => if i < n then some (r i) else none)))))) :: ((List.range n).map r).map (fun a => (a, .inl (cy, k, .inl (fun _ => 0)))))) (tys ++ [(cA, .array .int), (cy, .int)]) := by
  refine h.more (M' := nwB M n k) (l := ((q, .inl (cA, n, .inr (.inr (.inr (.inr (fun i => if i < n then some (r i) else none)))))) :: ((List.range n).map r).map (fun a => (a, .inl (cy, k, .inl (fun _ => 0)))))) (by show mz M + 1 + n = _; simp; omega) (fun a ha => ?_) (fun i p hi => ?_) (fun a ha => ?_)
  · have hne : a ≠ mz M := by omega
    have hle : ¬ mz M ≤ a := by omega
    have hlt : ¬ (mz M < a ∧ a ≤ mz M + n) := by omega
    refine ⟨fun _ => rfl, fun _ => rfl, fun j => ?_, fun j => ?_, ?_, ?_⟩
    · show (if mz M ≤ a then _ else _) = _; rw [if_neg hle]
    · show (if a = mz M then _ else if mz M ≤ a then _ else _) = _; rw [if_neg hne, if_neg hle]
    · show (if a = mz M then _ else if mz M < a ∧ a ≤ mz M + n then _ else _) = _; rw [if_neg hne, if_neg hlt]
    · show (if a = mz M then _ else if mz M < a ∧ a ≤ mz M + n then _ else _) = _; rw [if_neg hne, if_neg hlt]
  · cases i with
    | zero =>
      simp only [List.getElem?_cons_zero, Option.some.injEq] at hi
      subst hi
      refine ⟨?_, Or.inl ⟨?_, List.mem_append_right _ List.mem_cons_self⟩, fun j => ?_⟩
      · show (if mz M + 0 = mz M then _ else _) = _; rw [if_pos (by omega)]
      · show (if mz M + 0 = mz M then _ else _) = _; rw [if_pos (by omega)]
      · show zrr _ (if mz M + 0 = mz M then (if j < n then mz M + 1 + j else 0) else _) (va_rf (if j < n then some (r j) else none))
        rw [if_pos (by omega)]
        by_cases hj : j < n
        · rw [if_pos hj, if_pos hj]
          refine Or.inr ⟨ws.length + 1 + j, (r j, .inl (cy, k, .inl (fun _ => 0))), by have := h.1; omega, ?_, rfl⟩
          rw [List.getElem?_append_right (by omega), show ws.length + 1 + j - ws.length = j + 1 by omega, List.getElem?_cons_succ, List.getElem?_map, List.getElem?_map, List.getElem?_range hj]
          rfl
        · rw [if_neg hj, if_neg hj]; exact Or.inl ⟨rfl, rfl⟩
    | succ i =>
      rw [List.getElem?_cons_succ, List.getElem?_map, List.getElem?_map] at hi
      have hin : i < n := by
        apply Nat.not_le.mp
        intro e
        rw [List.getElem?_eq_none (by rw [List.length_range]; exact e)] at hi
        cases hi
      rw [List.getElem?_range hin] at hi
      cases hi
      have g1 : ¬ mz M + (i + 1) = mz M := by omega
      have g2 : mz M < mz M + (i + 1) ∧ mz M + (i + 1) ≤ mz M + n := by omega
      refine ⟨?_, Or.inl ⟨?_, List.mem_append_right _ (List.mem_cons_of_mem _ List.mem_cons_self)⟩, fun j => ?_⟩
      · show (if mz M + (i + 1) = mz M then _ else if mz M < mz M + (i + 1) ∧ mz M + (i + 1) ≤ mz M + n then _ else _) = _; rw [if_neg g1, if_pos g2]
      · show (if mz M + (i + 1) = mz M then _ else if mz M < mz M + (i + 1) ∧ mz M + (i + 1) ≤ mz M + n then _ else _) = _; rw [if_neg g1, if_pos g2]
      · show _ = (if mz M ≤ mz M + (i + 1) then _ else _); rw [if_pos (by omega)]; rfl
  · have h9 : mz M + (n + 1) ≤ a := by
      have : (((q, .inl (cA, n, .inr (.inr (.inr (.inr (fun i => if i < n then some (r i) else none)))))) :: ((List.range n).map r).map (fun a => (a, .inl (cy, k, .inl (fun _ => 0)))) : va_W)).length = n + 1 := by simp
      omega
    show (if a = mz M then _ else if mz M < a ∧ a ≤ mz M + n then _ else _) = _
    rw [if_neg (by omega), if_neg (by omega)]
