/-! every method, however deep it calls -/
section ZDEEP
variable {D : va_G} {b0 : Nat} {Ev : Nat → Value} {xs : Nat → Int} {xl d : Nat}
/-- the end of a method that answers -/
theorem zfin {p : Program} {l : Launch} {e : Env} {R : Room} {s : State} {m : MethodId} {args : Array Value} {below : List Frame} {meth : Method} {c : Code} {nL c0 u0 : Nat} {Mf : zM} {cc : ByteArray} {oc : Nat} {rt : Option FieldType} {ini : Bool} {hh : List (Nat × Nat × Nat × Nat × Nat)} {w0 : va_W} (C : zCx p l s m args meth c b0 Ev xs xl nL cc oc rt ini hh) (hc0 : c0 ≤ mc Mf) (hu0 : u0 ≤ mu Mf) {rv : Option zV} {pc : Nat} {i : Instr} {ls st : List zV} {H : Heap} {locs : List Loc} {cells slots : Nat} {ws : va_W} {tys : List (ClassId × FieldType)} {lsM : Array Slot} {stM : List Value} (hd : decode cc pc = .ok (i, 1)) (hr : zretI i rt rv st) (S : zSt s R D b0 Ev nL c0 u0 w0 Mf ls st Mf H locs cells slots ws tys lsM stM) : W p l e R s m args below meth c H locs cells slots (MQ below (zQc D b0 Ev w0 rv Mf) args s (mc Mf - c0) (mu Mf - u0) (fun q => b0 ≤ q)) (F0 m pc lsM stM) := by
  obtain ⟨g1, g2, g3, g4, g5, g6, g7, g8, g9⟩ := id S
  have e1 : mc Mf - c0 = cells := by omega
  have e2 : mu Mf - u0 = slots := by omega
  rw [e1, e2]
  have hq : ∀ (rvM : Option Value), zsr Ev ws rv.toList rvM.toList → ∀ t : State, t.heap = H → s.WarmedH t.vm → zQc D b0 Ev w0 rv Mf args s (.returned rvM) t := fun rvM hrv t ht hW => ⟨⟨rvM, ws, tys, rfl, hrv, g1, by rw [ht]; exact g2, va_K.moved hW.alike g3, g4, g9.2⟩, va_S.F g5 ht⟩
  rcases hr with ⟨rfl, ty, v, h1, rfl, h2, rfl⟩ | ⟨rfl, v, h1, rfl, rfl⟩ | ⟨rfl, v, h1, rfl, rfl⟩ | ⟨rfl, ty, v, h1, h2, rfl, h3, rfl⟩ | ⟨rfl, h1, rfl, rfl⟩
  · obtain ⟨w, r, rfl, ⟨x, rfl, rfl⟩, h5⟩ := g7.cons
    rw [h5.nil]
    exact W.zret C.1 C.2.1 (C.2.2.1.trans h1) (zfits h2).1 (hq _ ⟨⟨x, rfl, rfl⟩, trivial⟩) g5.2.2 hd C.2.2.2.2.2.2.2.1
  · obtain ⟨w, r, rfl, ⟨x, rfl, rfl⟩, h5⟩ := g7.cons
    rw [h5.nil]
    exact W.lret C.1 C.2.1 (C.2.2.1.trans h1) (hq _ ⟨⟨x, rfl, rfl⟩, trivial⟩) g5.2.2 hd C.2.2.2.2.2.2.2.1
  · obtain ⟨w, r, rfl, h4, h5⟩ := g7.cons
    have h4 : w = .double v := h4
    subst h4
    rw [h5.nil]
    exact W.dret C.1 C.2.1 (C.2.2.1.trans h1) (hq _ ⟨rfl, trivial⟩) g5.2.2 hd C.2.2.2.2.2.2.2.1
  · obtain ⟨w, r, rfl, h4, h5⟩ := g7.cons
    rw [h5.nil]
    refine W.aret C.1 C.2.1 (C.2.2.1.trans h1) ?_ ((zqr_or C.2.2.2.2.2.2.2.2.2.2.1 h4 h3).symm) (hq _ ⟨h4, trivial⟩) g5.2.2 hd C.2.2.2.2.2.2.2.1
    cases ty <;> first | exact Or.inl ⟨_, rfl⟩ | exact Or.inr ⟨_, rfl⟩ | (exact absurd h2 (by simp [zisq]))
  · rw [g7.nil]
    exact W.vret C.1 C.2.1 (C.2.2.1.trans h1) (hq none trivial) g5.2.2 hd C.2.2.2.2.2.2.2.1
/-- the world only grows -/
theorem zdeep {l : Launch} (hlt : l.stackTraces = false) (hE : ∀ k, (∃ a, Ev k = .ref a) ∨ Ev k = .null) : ∀ d : Nat, zSnd l D b0 Ev xs xl d
  | 0 => fun _ _ _ _ _ _ _ h => h.elim
  | d + 1 => by
    have hS := zdeep hlt hE d
    intro K a M r M' hK h20 hcall av ws tys hH ha
    obtain ⟨⟨hu, hn⟩, n, hrun⟩ := hcall
    have hle : zle M M' := zmo_run (zmo_call d) n _ _ _ _ _ _ hrun
    obtain ⟨w1, w2, w3, w4, w5, w6, w7, w8⟩ := zmw_is hK
    have hpn := w1.resolve_right h20
    have hok := zhok_all K hK
    have hh13 : zMh K ≠ [] → zMo K = 13 := fun q => w8.resolve_left q
    have hR : d + 33 ≤ (zrm (d + 1) (mc M' - mc M) (mu M' - mu M)).frames ∧ 64 * d + 1264 ≤ (zrm (d + 1) (mc M' - mc M) (mu M' - mu M)).locals := ⟨by show _ ≤ d + 1 + 32; omega, by show _ ≤ 64 * (d + 1) + 1200; omega⟩
    have b1 : mc M' ≤ mc M + (mc M' - mc M) := by have := hle.1; omega
    have b2 : mu M' ≤ mu M + (mu M' - mu M) := by have := hle.2; omega
    refine ⟨fun rv hrv => ?_, fun E hrE hh0 => ?_⟩
    · have body : ∀ (p : Program) (e : Env) (s : State) (m : MethodId) (args : Array Value) (below : List Frame) (meth : Method) (c : Code) (s₁ : State), BodyLoose p l (zMy K) (headSpec (zcw K :: zT0) (zrm (d + 1) (mc M' - mc M) (mu M' - mu M))) (zMc K) (zMl K) (zMr K) e s m args below meth c s₁ → c.maxLocals = zMl K → zPc D b0 Ev xs xl av ws tys args s → W p l e (headSpec (zcw K :: zT0) (zrm (d + 1) (mc M' - mc M) (mu M' - mu M))).room s m args below meth c s.heap [] 0 0 (MQ below (zQc D b0 Ev ws rv M') args s (mc M' - mc M) (mu M' - mu M) (fun q => b0 ≤ q)) (entryFrame m args (zMl K)) := by
        intro p e s m args below meth c s₁ B hml hv
        obtain ⟨C, rfl, lsM, hent, hst⟩ := zstart hlt hE hK B hml hv hH ha hu hn hle b1 b2
        rw [hent]
        exact zrun_ok (r := r) (Q := MQ below (zQc D b0 Ev ws rv M') av.toArray s (mc M' - mc M) (mu M' - mu M) (fun q => b0 ≤ q)) C hh13 hok hS hR (fun rv' pc i ls st H locs cells slots ws' tys' lsM' stM' e1 hd hr S => by
          rw [hrv] at e1
          cases e1
          exact zfin C hle.1 hle.2 hd hr S) (fun E pc k is ic ls st M e1 => by rw [hrv] at e1; cases e1) n 0 _ _ M hrun _ _ _ _ _ _ _ _ hst
      by_cases hh0 : zMh K = []
      · exact Met.ofW (cc := zMc K) (maxL := zMl K) (ret := zMr K) (ws' := zT0) hpn (by unfold zcw; rw [if_pos hh0]) body
      · exact va_MetW (cc := zMc K) (maxL := zMl K) (ret := zMr K) (ws' := zT0) (hh := (zMh K).map (fun h => (h.1, h.2.1, h.2.2.1, h.2.2.2.2))) hpn (by unfold zcw; rw [if_neg hh0]) body
    · refine vx_ofW (cc := zMc K) (maxL := zMl K) (ret := zMr K) (ws' := zT0) hpn (by unfold zcw; rw [if_pos hh0]) ?_
      intro p e s m args below meth c s₁ B hml htab hv
      obtain ⟨C, rfl, lsM, hent, hst⟩ := zstart hlt hE hK B hml hv hH ha hu hn hle b1 b2
      rw [hent]
      exact zrun_ok (r := r) (Q := vx_MQ below (fun _ _ _ _ => False) (zXC D b0 ws E M') av.toArray s (mc M' - mc M) (mu M' - mu M) (fun q => b0 ≤ q)) C hh13 hok hS hR (fun rv' pc i ls st H locs cells slots ws' tys' lsM' stM' e1 => by rw [hrE] at e1; cases e1) (fun E' pc k is ic ls st M9 e1 d0 d3 d4 d6 d9 hx hE' hs4 hM => by
        rw [hrE] at e1
        cases e1
        exact zs_throw C ⟨by show 20 ≤ d + 1 + 32; omega, by show 200 ≤ 64 * (d + 1) + 1200; omega⟩ htab hs4 d0 d3 d4 d6 d9 hx hE' hM hle.1 hle.2) n 0 _ _ M hrun _ _ _ _ _ _ _ _ hst
end ZDEEP
