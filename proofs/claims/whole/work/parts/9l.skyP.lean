/-! sky: both -/
section SkyP
variable {d : Nat} {μ : zMem} {n : Nat} {S : zSky} {D : Nat → Int32} {tn : Nat} {tb : Nat → Int32} {F : Int32} {T : zT} {K : Option (Nat → Int32)} {M : Option zT}
theorem QW.new {σ : zS} (hm : SgM σ) : QW σ.2.1.1 σ.2.2.1 σ.2.2.2 0 (tNew σ.2.1.2 T) none none :=
  ⟨hm.2.1.1, hm.2.2.1.2.1, hm.2.2.1.2.2, hm.2.2.2.1, Nat.zero_le _, ⟨Nat.zero_le _, Nat.zero_le _, Nat.zero_le _, hm.2.1.2, fun j hj => absurd hj (Nat.not_lt_zero j), fun j hj => absurd hj (Nat.not_lt_zero j), fun j hj => absurd hj (Nat.not_lt_zero j)⟩, fun z => absurd rfl z, fun T' z => by cases z⟩
theorem P_sky {x1 : Int32} (h : QS μ n S D tn tb F T K M) : PI (d + 56) mX8_sky mX9_sky [.ref 0, .int x1] [.ref 106, .int x1] c11 μ := by
  intro KI X hK hX
  have hW := h.1
  have ht := hW.2.2.2.2.1
  refine C_sky h.1 h.2.1 (fun q => hX _ _ Fr.rf (fun m2 g => R_sky (d := d + 1) h.1 (h.2.2.r (Fr.rf (P := zCls)) g) (fun _ m f e => ⟨e, h.q Fr.rf g f⟩) (fun N c q' e1 e2 => absurd ⟨N, e1, e2⟩ q) (fun N σ e1 e2 => absurd ⟨N, e1, e2⟩ q)) (by decide))
    (fun N c q e1 e2 e3 m1 f1 c1 => hK _ _ f1 (fun m2 g => R_sky (d := d + 1) h.1 (h.2.2.r f1 g) (fun b => absurd ⟨N, e1, e2⟩ b) (fun N' c' q' e1' e2' e3' m f e4 r => ?_) (fun N' σ e1' e2' e3' _ m f e4 r => ?_)))
    (fun N σ e1 e2 e3 hm m1 f1 c1 => hK _ _ f1 (fun m2 g => R_sky (d := d + 1) h.1 (h.2.2.r f1 g) (fun b => absurd ⟨N, e1, e2⟩ b) (fun N' c' q' e1' e2' e3' m f e4 r => ?_) (fun N' σ' e1' e2' e3' _ m f e4 r => ?_)))
  · cases nj' (by omega) (by omega) (e1.symm.trans e1')
    cases e3.symm.trans e3'
    exact ⟨e4, rfl, ⟨n, S, D, 0, tb, nI q, tRef T 0, K, M, ⟨hW.1, hW.2.1, hW.2.2.1, hW.2.2.2.1, Nat.zero_le _, hW.2.2.2.2.2⟩, c1.r g f, r⟩, f⟩
  · cases nj' (by omega) (by omega) (e1.symm.trans e1')
    cases e3.symm.trans e3'
  · cases nj' (by omega) (by omega) (e1.symm.trans e1')
    cases e3.symm.trans e3'
  · cases nj' (by omega) (by omega) (e1.symm.trans e1')
    cases e3.symm.trans e3'
    exact ⟨e4, rfl, ⟨_, _, _, 0, tb, -1, _, none, none, QW.new hm, c1.r g f, r⟩, f⟩
end SkyP
