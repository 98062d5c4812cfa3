section
variable {l : Launch} {D : va_G} {tc : Nat → ClassId} {sv : Nat → Value} {b : Nat} {X : mX}
theorem a_fin {p : Program} {e : Env} {R : Room} {s : State} {m : MethodId} {args : Array Value} {below : List Frame} {meth : Method} {c : Code} {H : Heap} {locs : List Loc} {cells slots : Nat} {mt : mT} {v : Option Value} {n : Nat} {M : mM} (hx : p.tables.exec = Jvm.exec) (hb : c.code = mt.2.1) (hr : meth.sig.returnType = mt.2.2.2.1) (hlocks : meth.locks = false) {pc : Nat} {ls : Array Slot} (hv : a_rok mt pc v) (hw : a_wd D tc sv b n M H) (hS : va_S (fun q => b ≤ q) s.heap H locs) :
    W p l e R s m args below meth c H locs cells slots (MQ below (a_Qc D tc sv b v n M) args s cells slots (fun q => b ≤ q)) (F0 m pc ls (v.toList.map (a_cv sv b))) := by
  have hq : ∀ t : State, t.heap = H → s.WarmedH t.vm → a_Qc D tc sv b v n M args s (.returned (v.map (a_cv sv b))) t := fun t ht _ => ⟨rfl, by rw [ht]; exact hw, hS.F ht⟩
  match v, hv, hq with
  | none, hv, hq => exact W.vret hx hb (hr.trans hv.2) hq hS.2.2 hv.1 hlocks
  | some (.int x), hv, hq =>
    obtain ⟨h1, ty, h2, h3⟩ := hv
    exact W.zret hx hb (hr.trans h2) h3 hq hS.2.2 h1 hlocks
  | some (.long x), hv, hq => exact W.lret hx hb (hr.trans hv.2) hq hS.2.2 hv.1 hlocks
  | some .null, hv, hq =>
    obtain ⟨h1, n0, h2⟩ := hv
    exact W.aret hx hb (hr.trans h2) (Or.inl ⟨n0, rfl⟩) (Or.inl rfl) hq hS.2.2 h1 hlocks
  | some (.ref a), hv, hq =>
    obtain ⟨h1, n0, h2⟩ := hv
    exact W.aret hx hb (hr.trans h2) (Or.inl ⟨n0, rfl⟩) (Or.inr ⟨_, rfl⟩) hq hS.2.2 h1 hlocks
  | some (.float _), hv, _ => exact hv.elim
  | some (.double _), hv, _ => exact hv.elim
  | some (.retAddr _), hv, _ => exact hv.elim
/-- what the machine does, where the small machine says so -/
def a_Snd (l : Launch) (D : va_G) (tc : Nat → ClassId) (sv : Nat → Value) (b : Nat) (X : mX) (d y pc : Nat) (L : mL) (st : List Value) (n z : Nat) (M : mM) (r : mR) : Prop :=
  n ≤ r.1 ∧ z ≤ r.2.1 ∧ ∀ {mt : mT}, a_mt[y]? = some mt → ∀ {p : Program} {e : Env} {R : Room} {s : State} {m : MethodId} {args : Array Value} {below : List Frame} {meth : Method} {c : Code} {H : Heap} {locs : List Loc} {Q : State → Prop} {ls : Array Slot} {n0 z0 : Nat}, a_cx p s m args meth c D tc sv b X mt → L.length = c.maxLocals → a_lh sv b ls L → a_wd D tc sv b n M H → va_S (fun q => b ≤ q) s.heap H locs → n0 ≤ n → z0 ≤ z → (d + 1 ≤ R.frames ∧ 60 * (d + 1) ≤ R.locals) → r.1 - n0 ≤ R.cells → r.2.1 - z0 ≤ R.slots →
    (∀ (pc' : Nat) (ls' : Array Slot) (H' : Heap) (locs' : List Loc), a_rok mt pc' r.2.2.2 → a_wd D tc sv b r.1 r.2.2.1 H' → va_S (fun q => b ≤ q) s.heap H' locs' → W p l e R s m args below meth c H' locs' (r.1 - n0) (r.2.1 - z0) Q (F0 m pc' ls' (r.2.2.2.toList.map (a_cv sv b)))) →
    W p l e R s m args below meth c H locs (n - n0) (z - z0) Q (F0 m pc ls (st.map (a_cv sv b)))
set_option maxHeartbeats 4000000 in
set_option maxRecDepth 100000 in
theorem a_snd : ∀ (f d y pc : Nat) (L : mL) (st : List Value) (n z : Nat) (M : mM) (r : mR), a_run X f d y pc L st n z M = some r → a_Snd l D tc sv b X d y pc L st n z M r := by
  intro f
  induction f with
  | zero => intro d y pc L st n z M r h; exact (a_no h).elim
  | succ f ih =>
    intro d y pc L st n z M r h
    unfold a_run at h
    split at h
    · exact (a_no h).elim
    · rename_i q hq
      obtain ⟨i', nx⟩ := q
      obtain ⟨mt, i, len, hmt, hd, hr⟩ := a_fv hq
      split at h
      · rename_i v hv
        cases h
        refine ⟨Nat.le_refl _, Nat.le_refl _, ?_⟩
        intro mt' hmt' p e R s m args below meth c H locs Q ls n0 z0 C0 hL hl hw hS hn hz hR hc1 hc2 hend
        obtain rfl : mt = mt' := Option.some.inj (hmt.symm.trans hmt')
        obtain ⟨hok, hst⟩ := a_Srt hmt hd hr hv
        rw [hst]
        exact hend pc ls H locs hok hw hS
      · split at h
        · rename_i cl hcl
          match d, h with
          | 0, h => exact (a_no h).elim
          | d + 1, h =>
            simp only at h
            split at h
            · exact (a_no h).elim
            · rename_i r1 hr1
              split at hr1
              · rename_i hlay
                obtain ⟨n1, z1, M1, v1⟩ := r1
                have I1 := ih d cl.1 0 (a_ent (a_mx cl.1) cl.2.1) [] n z M (n1, z1, M1, v1) hr1
                have I2 := ih (d + 1) y nx L (v1.toList ++ cl.2.2) n1 z1 M1 r h
                obtain ⟨i1n, i1z, I1⟩ := I1
                obtain ⟨i2n, i2z, I2⟩ := I2
                simp only at i1n i1z i2n i2z
                refine ⟨Nat.le_trans i1n i2n, Nat.le_trans i1z i2z, ?_⟩
                intro mt' hmt' p e R s m args below meth c H locs Q ls n0 z0 C0 hL hl hw hS hn hz hR hc1 hc2 hend
                obtain rfl : mt = mt' := Option.some.inj (hmt.symm.trans hmt')
                have hsv : a_svk sv := C0.2.2.2.2.2.2.2.2.2.2
                have hsz : ls.size = c.maxLocals := hl.1.trans hL
                cases hm2 : a_mt[cl.1]? with
                | none =>
                  have hlen : (a_mx cl.1) = 0 := by unfold a_mx; rw [hm2]
                  exfalso
                  cases f with
                  | zero => exact a_no hr1
                  | succ f =>
                    unfold a_run at hr1
                    have hfe : a_fetch cl.1 0 = none := by unfold a_fetch; rw [hm2]
                    rw [hfe] at hr1
                    exact a_no hr1
                | some m2 =>
                  have hmx : a_mx cl.1 = m2.2.2.1 := by unfold a_mx; rw [hm2]
                  rw [hmx] at hlay I1
                  have hM : Met l m2.1 (a_ws m2) (a_rm d (n1 - n) (z1 - z)) (a_Pc D tc sv b X cl.2.1 n M) (a_Qc D tc sv b v1 n1 M1) (n1 - n) (z1 - z) (fun q => b ≤ q) := by
                    refine a_MetW (a_plain _ (List.mem_of_getElem? hm2)) rfl ?_
                    intro p e s m args below meth c s₁ B hml hP
                    obtain ⟨ha, hPw, hPk, hPo⟩ := hP
                    subst ha
                    have hts := atoms_spec (ws := a_ws m2) B.pre
                    have hC : a_cx p s m ((cl.2.1.map (a_cv sv b)).toArray) meth c D tc sv b X m2 := ⟨B.exec, B.bytes, hml, findClass_of_methodNamed B.named, (fun h => by rw [(name_of_methodNamed B.named B.method).1]; exact h), fun w hw => hts w (List.mem_cons_of_mem _ hw), hPk, hPo, by have := hPw.1; omega, List.mem_of_getElem? hm2, hsv⟩
                    obtain ⟨he1, he2⟩ := a_entry (sv := sv) (b := b) hsv hlay
                    rw [lg_entry_eq]
                    have := I1 hm2 (p := p) (e := e) (R := a_rm d (n1 - n) (z1 - z)) (below := below) (locs := []) (Q := MQ below (a_Qc D tc sv b v1 n1 M1) (cl.2.1.map (a_cv sv b)).toArray s (n1 - n) (z1 - z) (fun q => b ≤ q)) (n0 := n) (z0 := z) hC (he2.trans hml.symm) he1 hPw va_S.rf (Nat.le_refl _) (Nat.le_refl _) ⟨Nat.le_refl _, Nat.le_refl _⟩ (Nat.le_refl _) (Nat.le_refl _) (fun pc' ls' H' locs' h1 h2 h3 => a_fin B.exec B.bytes B.returns B.notSynchronized h1 h2 h3)
                    rw [Nat.sub_self, Nat.sub_self] at this
                    exact this
                  obtain ⟨hnx, hrun⟩ := a_Scl (cells := n - n0) (slots := z - z0) C0 hS hw hsz hd hr hcl hm2 hM hR ⟨by omega, by omega⟩
                  intro T hT X0
                  obtain ⟨v', st₀, t, T', L', h0, X', hL', e1, e2, ⟨hv', hwd', hz', hk'⟩, stp⟩ := hrun T hT X0
                  have hv2 : v' = v1.map (a_cv sv b) := Outcome.returned.inj hv'
                  subst hv2
                  rw [h0] at hz' hk'
                  have hS' : va_S (fun q => b ≤ q) s.heap T'.heap (locs ++ L') := ⟨Nat.le_trans hS.1 (by rw [e1]; exact hz'), fun q h1 h2 => by rw [e1, hk' q (Nat.lt_of_lt_of_le h1 hS.1) h2]; exact hS.2.1 q h1 h2, fun q hq => by
                    rcases List.mem_append.mp hq with h | h
                    · exact hS.2.2 q h
                    · exact hL' q h⟩
                  have I3 := I2 hmt (p := p) (e := e) (R := R) (below := below) (locs := locs ++ L') (Q := Q) (n0 := n0) (z0 := z0) C0 hL hl (by rw [e1]; exact hwd') hS' (by omega) (by omega) hR hc1 hc2 hend
                  rw [show n1 - n0 = n - n0 + (n1 - n) by omega, show z1 - z0 = z - z0 + (z1 - z) by omega] at I3
                  have hst : (v1.toList ++ cl.2.2).map (a_cv sv b) = (v1.map (a_cv sv b)).toList ++ cl.2.2.map (a_cv sv b) := by
                    cases v1 <;> rfl
                  rw [hst, hnx] at I3
                  obtain ⟨t2, a1, b1⟩ := I3 T' rfl X'
                  exact ⟨t2, stp t2 a1, b1⟩
              · exact (a_no hr1).elim
        · split at h
          · exact (a_no h).elim
          · rename_i t ht
            have I2 := ih d y t.1 t.2.1 t.2.2.1 t.2.2.2.1 t.2.2.2.2.1 t.2.2.2.2.2 r h
            obtain ⟨i2n, i2z, I2⟩ := I2
            have hmono : n ≤ t.2.2.2.1 ∧ z ≤ t.2.2.2.2.1 := by
              rcases a_stpv ht with ⟨q, -, rfl⟩ | ⟨q, -, rfl⟩ | ⟨q, -, rfl⟩ | ⟨q, -, rfl⟩ | ⟨q, -, rfl⟩ | ⟨q, -, rfl⟩ <;> simp
            refine ⟨Nat.le_trans hmono.1 i2n, Nat.le_trans hmono.2 i2z, ?_⟩
            intro mt' hmt' p e R s m args below meth c H locs Q ls n0 z0 C0 hL hl hw hS hn hz hR hc1 hc2 hend
            obtain rfl : mt = mt' := Option.some.inj (hmt.symm.trans hmt')
            rcases a_stpv ht with ⟨q, hq, rfl⟩ | ⟨q, hq, rfl⟩ | ⟨q, hq, rfl⟩ | ⟨q, hq, rfl⟩ | ⟨q, hq, rfl⟩ | ⟨q, hq, rfl⟩
            · exact a_Sstk C0 hS (hl.1.trans hL) ⟨by omega, by omega⟩ hd hr hq (I2 hmt C0 hL hl hw hS hn hz hR hc1 hc2 hend)
            · exact a_Slo C0 hl hd hr hq (fun ls' hl' => I2 hmt C0 ((a_lo_len hq).trans hL) hl' hw hS hn hz hR hc1 hc2 hend)
            · exact a_Srd C0 hS hw hd hr hq (I2 hmt C0 hL hl hw hS hn hz hR hc1 hc2 hend)
            · exact a_Swr C0 hS hw hd hr hq (fun H1 locs1 hw1 hS1 => I2 hmt C0 hL hl hw1 hS1 hn hz hR hc1 hc2 hend)
            · simp only at i2n i2z
              refine a_Snw C0 hS hw hd hr hq (by omega) (by omega) (fun H1 hw1 hS1 => ?_)
              have I3 := I2 hmt C0 hL hl hw1 hS1 (by simp only; omega) (by simp only; omega) hR hc1 hc2 hend
              simp only at I3
              rw [show n + 1 - n0 = n - n0 + 1 by omega, show z + q.2.2 - z0 = z - z0 + q.2.2 by omega] at I3
              exact I3
            · exact a_Sbr C0 hd hr hq (I2 hmt C0 hL hl hw hS hn hz hR hc1 hc2 hend)
end
