noncomputable def F_X7_init (r0 : Nat) (x1 : Int) (W : mW) : Option (mW × Int) :=
  gd (W.2.2.1.1 r0 = .inl 7) <|
  gd (rg x1) <|
  gd (0 ≤ (max x1 0) ∧ (max x1 0) ≤ 100000) <|
  lt (nw W.2.2.1 W.1 (.inr (0, (max x1 0).toNat))) fun G4 =>
  lt (zA W.2.2.2 W.1) fun V5 =>
  gd (G4.1 r0 = .inl 7 ∧ G4.1 W.1 = .inr (0, (max x1 0).toNat)) <|
  lt (sR G4 r0 0 (.ref W.1)) fun G8 =>
  some (((W.1 + 1), (W.2.1 + (max x1 0).toNat), G8, V5), 0)
noncomputable def F_X3_init (r0 : Nat) (W : mW) : Option (mW × Int) :=
  gd (W.2.2.1.1 r0 = .inl 3) <|
  lt (zR (nw W.2.2.1 W.1 (.inl 7)) W.1) fun G2 =>
  lt (z0 W.2.2.2 W.1) fun V3 =>
  gd (G2.1 r0 = .inl 3 ∧ G2.1 W.1 = .inl 7) <|
  bd (F_X7_init W.1 1600 ((W.1 + 1), (W.2.1 + a_nf 7), G2, V3)) fun W6 v7 =>
  gd (W6.2.2.1.1 r0 = .inl 3 ∧ is7 W6.2.2.1 W.1) <|
  lt (sR W6.2.2.1 r0 0 (.ref W.1)) fun G11 =>
  lt (zR (nw G11 W6.1 (.inl 7)) W6.1) fun G12 =>
  lt (z0 W6.2.2.2 W6.1) fun V13 =>
  gd (G12.1 r0 = .inl 3 ∧ G12.1 W6.1 = .inl 7) <|
  bd (F_X7_init W6.1 64 ((W6.1 + 1), (W6.2.1 + a_nf 7), G12, V13)) fun W16 v17 =>
  gd (W16.2.2.1.1 r0 = .inl 3 ∧ is7 W16.2.2.1 W6.1) <|
  lt (sR W16.2.2.1 r0 1 (.ref W6.1)) fun G21 =>
  gd (G21.2.1 r0 1 = .ref (r0 + 3) ∧ is7 G21 (r0 + 3)) <|
  bd (F_X7_fill G21 (r0 + 3) 64 0 W16.2.2.2) fun V24 v25 =>
  some ((W16.1, W16.2.1, G21, V24), 0)
noncomputable def F_X0_init (r0 : Nat) (W : mW) : Option (mW × Int) :=
  gd (W.2.2.1.1 r0 = .inl 0) <|
  lt (zR (nw W.2.2.1 W.1 (.inl 7)) W.1) fun G2 =>
  lt (z0 W.2.2.2 W.1) fun V3 =>
  gd (G2.1 r0 = .inl 0 ∧ G2.1 W.1 = .inl 7) <|
  bd (F_X7_init W.1 100 ((W.1 + 1), (W.2.1 + a_nf 7), G2, V3)) fun W6 v7 =>
  gd (W6.2.2.1.1 r0 = .inl 0 ∧ is7 W6.2.2.1 W.1) <|
  lt (sR W6.2.2.1 r0 0 (.ref W.1)) fun G11 =>
  lt (zR (nw G11 W6.1 (.inl 7)) W6.1) fun G12 =>
  lt (z0 W6.2.2.2 W6.1) fun V13 =>
  gd (G12.1 r0 = .inl 0 ∧ G12.1 W6.1 = .inl 7) <|
  bd (F_X7_init W6.1 1024 ((W6.1 + 1), (W6.2.1 + a_nf 7), G12, V13)) fun W16 v17 =>
  gd (W16.2.2.1.1 r0 = .inl 0 ∧ is7 W16.2.2.1 W6.1) <|
  lt (sR W16.2.2.1 r0 1 (.ref W6.1)) fun G21 =>
  lt (zR (nw G21 W16.1 (.inl 7)) W16.1) fun G22 =>
  lt (z0 W16.2.2.2 W16.1) fun V23 =>
  gd (G22.1 r0 = .inl 0 ∧ G22.1 W16.1 = .inl 7) <|
  bd (F_X7_init W16.1 10 ((W16.1 + 1), (W16.2.1 + a_nf 7), G22, V23)) fun W26 v27 =>
  gd (W26.2.2.1.1 r0 = .inl 0 ∧ is7 W26.2.2.1 W16.1) <|
  lt (sR W26.2.2.1 r0 2 (.ref W16.1)) fun G31 =>
  some ((W26.1, W26.2.1, G31, W26.2.2.2), 0)
noncomputable def F_X1_init (r0 : Nat) (W : mW) : Option (mW × Int) :=
  gd (W.2.2.1.1 r0 = .inl 1) <|
  lt (zR (nw W.2.2.1 W.1 (.inl 7)) W.1) fun G2 =>
  lt (z0 W.2.2.2 W.1) fun V3 =>
  gd (G2.1 r0 = .inl 1 ∧ G2.1 W.1 = .inl 7) <|
  bd (F_X7_init W.1 10 ((W.1 + 1), (W.2.1 + a_nf 7), G2, V3)) fun W6 v7 =>
  gd (W6.2.2.1.1 r0 = .inl 1 ∧ is7 W6.2.2.1 W.1) <|
  lt (sR W6.2.2.1 r0 0 (.ref W.1)) fun G11 =>
  lt (zR (nw G11 W6.1 (.inl 7)) W6.1) fun G12 =>
  lt (z0 W6.2.2.2 W6.1) fun V13 =>
  gd (G12.1 r0 = .inl 1 ∧ G12.1 W6.1 = .inl 7) <|
  bd (F_X7_init W6.1 10 ((W6.1 + 1), (W6.2.1 + a_nf 7), G12, V13)) fun W16 v17 =>
  gd (W16.2.2.1.1 r0 = .inl 1 ∧ is7 W16.2.2.1 W6.1) <|
  lt (sR W16.2.2.1 r0 1 (.ref W6.1)) fun G21 =>
  lt (zR (nw G21 W16.1 (.inl 7)) W16.1) fun G22 =>
  lt (z0 W16.2.2.2 W16.1) fun V23 =>
  gd (G22.1 r0 = .inl 1 ∧ G22.1 W16.1 = .inl 7) <|
  bd (F_X7_init W16.1 10 ((W16.1 + 1), (W16.2.1 + a_nf 7), G22, V23)) fun W26 v27 =>
  gd (W26.2.2.1.1 r0 = .inl 1 ∧ is7 W26.2.2.1 W16.1) <|
  lt (sR W26.2.2.1 r0 2 (.ref W16.1)) fun G31 =>
  lt (zR (nw G31 W26.1 (.inl 7)) W26.1) fun G32 =>
  lt (z0 W26.2.2.2 W26.1) fun V33 =>
  gd (G32.1 r0 = .inl 1 ∧ G32.1 W26.1 = .inl 7) <|
  bd (F_X7_init W26.1 10 ((W26.1 + 1), (W26.2.1 + a_nf 7), G32, V33)) fun W36 v37 =>
  gd (W36.2.2.1.1 r0 = .inl 1 ∧ is7 W36.2.2.1 W26.1) <|
  lt (sR W36.2.2.1 r0 3 (.ref W26.1)) fun G41 =>
  lt (zR (nw G41 W36.1 (.inl 7)) W36.1) fun G42 =>
  lt (z0 W36.2.2.2 W36.1) fun V43 =>
  gd (G42.1 r0 = .inl 1 ∧ G42.1 W36.1 = .inl 7) <|
  bd (F_X7_init W36.1 100 ((W36.1 + 1), (W36.2.1 + a_nf 7), G42, V43)) fun W46 v47 =>
  gd (W46.2.2.1.1 r0 = .inl 1 ∧ is7 W46.2.2.1 W36.1) <|
  lt (sR W46.2.2.1 r0 4 (.ref W36.1)) fun G51 =>
  lt (zR (nw G51 W46.1 (.inl 7)) W46.1) fun G52 =>
  lt (z0 W46.2.2.2 W46.1) fun V53 =>
  gd (G52.1 r0 = .inl 1 ∧ G52.1 W46.1 = .inl 7) <|
  bd (F_X7_init W46.1 8 ((W46.1 + 1), (W46.2.1 + a_nf 7), G52, V53)) fun W56 v57 =>
  gd (W56.2.2.1.1 r0 = .inl 1 ∧ is7 W56.2.2.1 W46.1) <|
  lt (sR W56.2.2.1 r0 5 (.ref W46.1)) fun G61 =>
  lt (zR (nw G61 W56.1 (.inl 7)) W56.1) fun G62 =>
  lt (z0 W56.2.2.2 W56.1) fun V63 =>
  gd (G62.1 r0 = .inl 1 ∧ G62.1 W56.1 = .inl 7) <|
  bd (F_X7_init W56.1 8 ((W56.1 + 1), (W56.2.1 + a_nf 7), G62, V63)) fun W66 v67 =>
  gd (W66.2.2.1.1 r0 = .inl 1 ∧ is7 W66.2.2.1 W56.1) <|
  lt (sR W66.2.2.1 r0 6 (.ref W56.1)) fun G71 =>
  lt (zR (nw G71 W66.1 (.inl 7)) W66.1) fun G72 =>
  lt (z0 W66.2.2.2 W66.1) fun V73 =>
  gd (G72.1 r0 = .inl 1 ∧ G72.1 W66.1 = .inl 7) <|
  bd (F_X7_init W66.1 24 ((W66.1 + 1), (W66.2.1 + a_nf 7), G72, V73)) fun W76 v77 =>
  gd (W76.2.2.1.1 r0 = .inl 1 ∧ is7 W76.2.2.1 W66.1) <|
  lt (sR W76.2.2.1 r0 7 (.ref W66.1)) fun G81 =>
  lt (zR (nw G81 W76.1 (.inl 7)) W76.1) fun G82 =>
  lt (z0 W76.2.2.2 W76.1) fun V83 =>
  gd (G82.1 r0 = .inl 1 ∧ G82.1 W76.1 = .inl 7) <|
  bd (F_X7_init W76.1 24 ((W76.1 + 1), (W76.2.1 + a_nf 7), G82, V83)) fun W86 v87 =>
  gd (W86.2.2.1.1 r0 = .inl 1 ∧ is7 W86.2.2.1 W76.1) <|
  lt (sR W86.2.2.1 r0 8 (.ref W76.1)) fun G91 =>
  lt (zR (nw G91 W86.1 (.inl 7)) W86.1) fun G92 =>
  lt (z0 W86.2.2.2 W86.1) fun V93 =>
  gd (G92.1 r0 = .inl 1 ∧ G92.1 W86.1 = .inl 7) <|
  bd (F_X7_init W86.1 24 ((W86.1 + 1), (W86.2.1 + a_nf 7), G92, V93)) fun W96 v97 =>
  gd (W96.2.2.1.1 r0 = .inl 1 ∧ is7 W96.2.2.1 W86.1) <|
  lt (sR W96.2.2.1 r0 9 (.ref W86.1)) fun G101 =>
  lt (zR (nw G101 W96.1 (.inl 3)) W96.1) fun G102 =>
  lt (z0 W96.2.2.2 W96.1) fun V103 =>
  gd (G102.1 r0 = .inl 1 ∧ G102.1 W96.1 = .inl 3) <|
  bd (F_X3_init W96.1 ((W96.1 + 1), (W96.2.1 + a_nf 3), G102, V103)) fun W106 v107 =>
  gd (W106.2.2.1.1 r0 = .inl 1 ∧ is3 W106.2.2.1 W96.1) <|
  lt (sR W106.2.2.1 r0 10 (.ref W96.1)) fun G111 =>
  lt (zR (nw G111 W106.1 (.inl 3)) W106.1) fun G112 =>
  lt (z0 W106.2.2.2 W106.1) fun V113 =>
  gd (G112.1 r0 = .inl 1 ∧ G112.1 W106.1 = .inl 3) <|
  bd (F_X3_init W106.1 ((W106.1 + 1), (W106.2.1 + a_nf 3), G112, V113)) fun W116 v117 =>
  gd (W116.2.2.1.1 r0 = .inl 1 ∧ is3 W116.2.2.1 W106.1) <|
  lt (sR W116.2.2.1 r0 11 (.ref W106.1)) fun G121 =>
  lt (zR (nw G121 W116.1 (.inl 3)) W116.1) fun G122 =>
  lt (z0 W116.2.2.2 W116.1) fun V123 =>
  gd (G122.1 r0 = .inl 1 ∧ G122.1 W116.1 = .inl 3) <|
  bd (F_X3_init W116.1 ((W116.1 + 1), (W116.2.1 + a_nf 3), G122, V123)) fun W126 v127 =>
  gd (W126.2.2.1.1 r0 = .inl 1 ∧ is3 W126.2.2.1 W116.1) <|
  lt (sR W126.2.2.1 r0 12 (.ref W116.1)) fun G131 =>
  lt (zR (nw G131 W126.1 (.inl 3)) W126.1) fun G132 =>
  lt (z0 W126.2.2.2 W126.1) fun V133 =>
  gd (G132.1 r0 = .inl 1 ∧ G132.1 W126.1 = .inl 3) <|
  bd (F_X3_init W126.1 ((W126.1 + 1), (W126.2.1 + a_nf 3), G132, V133)) fun W136 v137 =>
  gd (W136.2.2.1.1 r0 = .inl 1 ∧ is3 W136.2.2.1 W126.1) <|
  lt (sR W136.2.2.1 r0 13 (.ref W126.1)) fun G141 =>
  some ((W136.1, W136.2.1, G141, W136.2.2.2), 0)
noncomputable def F_X2_init (r0 : Nat) (W : mW) : Option (mW × Int) :=
  gd (W.2.2.1.1 r0 = .inl 2) <|
  lt (zR (nw W.2.2.1 W.1 (.inl 7)) W.1) fun G2 =>
  lt (z0 W.2.2.2 W.1) fun V3 =>
  gd (G2.1 r0 = .inl 2 ∧ G2.1 W.1 = .inl 7) <|
  bd (F_X7_init W.1 43 ((W.1 + 1), (W.2.1 + a_nf 7), G2, V3)) fun W6 v7 =>
  gd (W6.2.2.1.1 r0 = .inl 2 ∧ is7 W6.2.2.1 W.1) <|
  lt (sR W6.2.2.1 r0 0 (.ref W.1)) fun G11 =>
  lt (zR (nw G11 W6.1 (.inl 7)) W6.1) fun G12 =>
  lt (z0 W6.2.2.2 W6.1) fun V13 =>
  gd (G12.1 r0 = .inl 2 ∧ G12.1 W6.1 = .inl 7) <|
  bd (F_X7_init W6.1 10 ((W6.1 + 1), (W6.2.1 + a_nf 7), G12, V13)) fun W16 v17 =>
  gd (W16.2.2.1.1 r0 = .inl 2 ∧ is7 W16.2.2.1 W6.1) <|
  lt (sR W16.2.2.1 r0 1 (.ref W6.1)) fun G21 =>
  lt (sI W16.2.2.2 r0 2 (-1)) fun V22 =>
  lt (zR (nw G21 W16.1 (.inl 7)) W16.1) fun G23 =>
  lt (z0 V22 W16.1) fun V24 =>
  gd (G23.1 r0 = .inl 2 ∧ G23.1 W16.1 = .inl 7) <|
  bd (F_X7_init W16.1 2 ((W16.1 + 1), (W16.2.1 + a_nf 7), G23, V24)) fun W27 v28 =>
  gd (W27.2.2.1.1 r0 = .inl 2 ∧ is7 W27.2.2.1 W16.1) <|
  lt (sR W27.2.2.1 r0 3 (.ref W16.1)) fun G32 =>
  lt (zR (nw G32 W27.1 (.inl 7)) W27.1) fun G33 =>
  lt (z0 W27.2.2.2 W27.1) fun V34 =>
  gd (G33.1 r0 = .inl 2 ∧ G33.1 W27.1 = .inl 7) <|
  bd (F_X7_init W27.1 3 ((W27.1 + 1), (W27.2.1 + a_nf 7), G33, V34)) fun W37 v38 =>
  gd (W37.2.2.1.1 r0 = .inl 2 ∧ is7 W37.2.2.1 W27.1) <|
  lt (sR W37.2.2.1 r0 4 (.ref W27.1)) fun G42 =>
  lt (zR (nw G42 W37.1 (.inl 7)) W37.1) fun G43 =>
  lt (z0 W37.2.2.2 W37.1) fun V44 =>
  gd (G43.1 r0 = .inl 2 ∧ G43.1 W37.1 = .inl 7) <|
  bd (F_X7_init W37.1 10 ((W37.1 + 1), (W37.2.1 + a_nf 7), G43, V44)) fun W47 v48 =>
  gd (W47.2.2.1.1 r0 = .inl 2 ∧ is7 W47.2.2.1 W37.1) <|
  lt (sR W47.2.2.1 r0 5 (.ref W37.1)) fun G52 =>
  gd (G52.2.1 r0 0 = .ref (r0 + 1) ∧ is7 G52 (r0 + 1)) <|
  bd (F_X7_fill G52 (r0 + 1) 43 0 W47.2.2.2) fun V55 v56 =>
  some ((W47.1, W47.2.1, G52, V55), 0)
noncomputable def F_X4_init (r0 : Nat) (W : mW) : Option (mW × Int) :=
  gd (W.2.2.1.1 r0 = .inl 4) <|
  lt (zR (nw W.2.2.1 W.1 (.inl 7)) W.1) fun G2 =>
  lt (z0 W.2.2.2 W.1) fun V3 =>
  gd (G2.1 r0 = .inl 4 ∧ G2.1 W.1 = .inl 7) <|
  bd (F_X7_init W.1 10 ((W.1 + 1), (W.2.1 + a_nf 7), G2, V3)) fun W6 v7 =>
  gd (W6.2.2.1.1 r0 = .inl 4 ∧ is7 W6.2.2.1 W.1) <|
  lt (sR W6.2.2.1 r0 1 (.ref W.1)) fun G11 =>
  lt (zR (nw G11 W6.1 (.inl 7)) W6.1) fun G12 =>
  lt (z0 W6.2.2.2 W6.1) fun V13 =>
  gd (G12.1 r0 = .inl 4 ∧ G12.1 W6.1 = .inl 7) <|
  bd (F_X7_init W6.1 10 ((W6.1 + 1), (W6.2.1 + a_nf 7), G12, V13)) fun W16 v17 =>
  gd (W16.2.2.1.1 r0 = .inl 4 ∧ is7 W16.2.2.1 W6.1) <|
  lt (sR W16.2.2.1 r0 2 (.ref W6.1)) fun G21 =>
  lt (zR (nw G21 W16.1 (.inl 7)) W16.1) fun G22 =>
  lt (z0 W16.2.2.2 W16.1) fun V23 =>
  gd (G22.1 r0 = .inl 4 ∧ G22.1 W16.1 = .inl 7) <|
  bd (F_X7_init W16.1 100 ((W16.1 + 1), (W16.2.1 + a_nf 7), G22, V23)) fun W26 v27 =>
  gd (W26.2.2.1.1 r0 = .inl 4 ∧ is7 W26.2.2.1 W16.1) <|
  lt (sR W26.2.2.1 r0 3 (.ref W16.1)) fun G31 =>
  lt (zR (nw G31 W26.1 (.inl 7)) W26.1) fun G32 =>
  lt (z0 W26.2.2.2 W26.1) fun V33 =>
  gd (G32.1 r0 = .inl 4 ∧ G32.1 W26.1 = .inl 7) <|
  bd (F_X7_init W26.1 160 ((W26.1 + 1), (W26.2.1 + a_nf 7), G32, V33)) fun W36 v37 =>
  gd (W36.2.2.1.1 r0 = .inl 4 ∧ is7 W36.2.2.1 W26.1) <|
  lt (sR W36.2.2.1 r0 4 (.ref W26.1)) fun G41 =>
  some ((W36.1, W36.2.1, G41, W36.2.2.2), 0)
noncomputable def B_X5_init_15 (r0 : Nat) (x1 : Int) (W : mW) : Option (mW × Nat × Int) :=
  gd (W.2.2.1.1 r0 = .inl 5) <|
  gd (W.2.2.1.2.1 r0 0 = .ref (r0 + 1) ∧ W.2.2.1.1 (r0 + 1) = .inr (3, 20)) <|
  gd (rg x1) <|
  gd (rg (20 : Int)) <|
  if (20 : Int) ≤ x1 then (some ((W.1, W.2.1, W.2.2.1, W.2.2.2), 1, x1)) else (gd (W.2.2.1.2.1 r0 0 = .ref (r0 + 1) ∧ W.2.2.1.1 (r0 + 1) = .inr (3, 20)) <|
  lt (zR (nw W.2.2.1 W.1 (.inl 4)) W.1) fun G14 =>
  lt (z0 W.2.2.2 W.1) fun V15 =>
  gd (G14.1 r0 = .inl 5 ∧ G14.1 (r0 + 1) = .inr (3, 20) ∧ G14.1 W.1 = .inl 4) <|
  bd (F_X4_init W.1 ((W.1 + 1), (W.2.1 + a_nf 4), G14, V15)) fun W19 v20 =>
  gd (W19.2.2.1.1 r0 = .inl 5 ∧ W19.2.2.1.1 (r0 + 1) = .inr (3, 20) ∧ is4 W19.2.2.1 W.1) <|
  gd (0 ≤ x1 ∧ x1 < (20 : Int) ∧ x1 ≤ 2147483647) <|
  lt (sQ W19.2.2.1 (r0 + 1) x1.toNat W.1) fun G26 =>
  lt (x1 + 1) fun y27 =>
  some ((W19.1, W19.2.1, G26, W19.2.2.2), 0, y27))
noncomputable def F_X5_init (r0 : Nat) (W : mW) : Option (mW × Int) :=
  gd (W.2.2.1.1 r0 = .inl 5) <|
  lt (zQ (nw W.2.2.1 W.1 (.inr (3, 20))) W.1) fun G2 =>
  gd (G2.1 r0 = .inl 5 ∧ G2.1 W.1 = .inr (3, 20)) <|
  lt (sR G2 r0 0 (.ref W.1)) fun G5 =>
  bd (lp (fun (s : Int) (Z : mW) => B_X5_init_15 r0 s Z) FU 0 ((W.1 + 1), (W.2.1 + 20), G5, W.2.2.2)) fun W28 u29 =>
  gd (W28.2.2.1.1 r0 = .inl 5) <|
  some ((W28.1, W28.2.1, W28.2.2.1, W28.2.2.2), 0)
noncomputable def F_X6_init (r0 : Nat) (W : mW) : Option (mW × Int) :=
  gd (W.2.2.1.1 r0 = .inl 6) <|
  lt (zR (nw W.2.2.1 W.1 (.inl 7)) W.1) fun G2 =>
  lt (z0 W.2.2.2 W.1) fun V3 =>
  gd (G2.1 r0 = .inl 6 ∧ G2.1 W.1 = .inl 7) <|
  bd (F_X7_init W.1 1601 ((W.1 + 1), (W.2.1 + a_nf 7), G2, V3)) fun W6 v7 =>
  gd (W6.2.2.1.1 r0 = .inl 6 ∧ is7 W6.2.2.1 W.1) <|
  lt (sR W6.2.2.1 r0 0 (.ref W.1)) fun G11 =>
  lt (zR (nw G11 W6.1 (.inl 7)) W6.1) fun G12 =>
  lt (z0 W6.2.2.2 W6.1) fun V13 =>
  gd (G12.1 r0 = .inl 6 ∧ G12.1 W6.1 = .inl 7) <|
  bd (F_X7_init W6.1 1601 ((W6.1 + 1), (W6.2.1 + a_nf 7), G12, V13)) fun W16 v17 =>
  gd (W16.2.2.1.1 r0 = .inl 6 ∧ is7 W16.2.2.1 W6.1) <|
  lt (sR W16.2.2.1 r0 1 (.ref W6.1)) fun G21 =>
  lt (zR (nw G21 W16.1 (.inl 7)) W16.1) fun G22 =>
  lt (z0 W16.2.2.2 W16.1) fun V23 =>
  gd (G22.1 r0 = .inl 6 ∧ G22.1 W16.1 = .inl 7) <|
  bd (F_X7_init W16.1 1601 ((W16.1 + 1), (W16.2.1 + a_nf 7), G22, V23)) fun W26 v27 =>
  gd (W26.2.2.1.1 r0 = .inl 6 ∧ is7 W26.2.2.1 W16.1) <|
  lt (sR W26.2.2.1 r0 2 (.ref W16.1)) fun G31 =>
  lt (zR (nw G31 W26.1 (.inl 7)) W26.1) fun G32 =>
  lt (z0 W26.2.2.2 W26.1) fun V33 =>
  gd (G32.1 r0 = .inl 6 ∧ G32.1 W26.1 = .inl 7) <|
  bd (F_X7_init W26.1 1601 ((W26.1 + 1), (W26.2.1 + a_nf 7), G32, V33)) fun W36 v37 =>
  gd (W36.2.2.1.1 r0 = .inl 6 ∧ is7 W36.2.2.1 W26.1) <|
  lt (sR W36.2.2.1 r0 3 (.ref W26.1)) fun G41 =>
  lt (zR (nw G41 W36.1 (.inl 7)) W36.1) fun G42 =>
  lt (z0 W36.2.2.2 W36.1) fun V43 =>
  gd (G42.1 r0 = .inl 6 ∧ G42.1 W36.1 = .inl 7) <|
  bd (F_X7_init W36.1 1601 ((W36.1 + 1), (W36.2.1 + a_nf 7), G42, V43)) fun W46 v47 =>
  gd (W46.2.2.1.1 r0 = .inl 6 ∧ is7 W46.2.2.1 W36.1) <|
  lt (sR W46.2.2.1 r0 4 (.ref W36.1)) fun G51 =>
  lt (zR (nw G51 W46.1 (.inl 7)) W46.1) fun G52 =>
  lt (z0 W46.2.2.2 W46.1) fun V53 =>
  gd (G52.1 r0 = .inl 6 ∧ G52.1 W46.1 = .inl 7) <|
  bd (F_X7_init W46.1 33 ((W46.1 + 1), (W46.2.1 + a_nf 7), G52, V53)) fun W56 v57 =>
  gd (W56.2.2.1.1 r0 = .inl 6 ∧ is7 W56.2.2.1 W46.1) <|
  lt (sR W56.2.2.1 r0 5 (.ref W46.1)) fun G61 =>
  lt (zR (nw G61 W56.1 (.inl 3)) W56.1) fun G62 =>
  lt (z0 W56.2.2.2 W56.1) fun V63 =>
  gd (G62.1 r0 = .inl 6 ∧ G62.1 W56.1 = .inl 3) <|
  bd (F_X3_init W56.1 ((W56.1 + 1), (W56.2.1 + a_nf 3), G62, V63)) fun W66 v67 =>
  gd (W66.2.2.1.1 r0 = .inl 6 ∧ is3 W66.2.2.1 W56.1) <|
  lt (sR W66.2.2.1 r0 7 (.ref W56.1)) fun G71 =>
  gd (G71.2.1 r0 7 = .ref (gR G71 r0 7) ∧ is3 G71 (gR G71 r0 7)) <|
  lt (sR G71 r0 9 (.ref (gR G71 r0 7))) fun G74 =>
  lt (sI W66.2.2.2 r0 12 (-1)) fun V75 =>
  gd (is6 G74 r0) <|
  bd (F_X6_addWords G74 r0 1 V75) fun V76 v77 =>
  gd (is6 G74 r0) <|
  bd (F_X6_addWords G74 r0 2 V76) fun V80 v81 =>
  some ((W66.1, W66.2.1, G74, V80), 0)
noncomputable def F_X9_init (r0 : Nat) (W : mW) : Option (mW × Int) :=
  gd (W.2.2.1.1 r0 = .inl 9) <|
  lt (zR (nw W.2.2.1 W.1 (.inl 7)) W.1) fun G2 =>
  lt (z0 W.2.2.2 W.1) fun V3 =>
  gd (G2.1 r0 = .inl 9 ∧ G2.1 W.1 = .inl 7) <|
  bd (F_X7_init W.1 1600 ((W.1 + 1), (W.2.1 + a_nf 7), G2, V3)) fun W6 v7 =>
  gd (W6.2.2.1.1 r0 = .inl 9 ∧ is7 W6.2.2.1 W.1) <|
  lt (sR W6.2.2.1 r0 0 (.ref W.1)) fun G11 =>
  lt (zR (nw G11 W6.1 (.inl 7)) W6.1) fun G12 =>
  lt (z0 W6.2.2.2 W6.1) fun V13 =>
  gd (G12.1 r0 = .inl 9 ∧ G12.1 W6.1 = .inl 7) <|
  bd (F_X7_init W6.1 123 ((W6.1 + 1), (W6.2.1 + a_nf 7), G12, V13)) fun W16 v17 =>
  gd (W16.2.2.1.1 r0 = .inl 9 ∧ is7 W16.2.2.1 W6.1) <|
  lt (sR W16.2.2.1 r0 1 (.ref W6.1)) fun G21 =>
  lt (zR (nw G21 W16.1 (.inl 7)) W16.1) fun G22 =>
  lt (z0 W16.2.2.2 W16.1) fun V23 =>
  gd (G22.1 r0 = .inl 9 ∧ G22.1 W16.1 = .inl 7) <|
  bd (F_X7_init W16.1 6 ((W16.1 + 1), (W16.2.1 + a_nf 7), G22, V23)) fun W26 v27 =>
  gd (W26.2.2.1.1 r0 = .inl 9 ∧ is7 W26.2.2.1 W16.1) <|
  lt (sR W26.2.2.1 r0 2 (.ref W16.1)) fun G31 =>
  lt (zR (nw G31 W26.1 (.inl 7)) W26.1) fun G32 =>
  lt (z0 W26.2.2.2 W26.1) fun V33 =>
  gd (G32.1 r0 = .inl 9 ∧ G32.1 W26.1 = .inl 7) <|
  bd (F_X7_init W26.1 60 ((W26.1 + 1), (W26.2.1 + a_nf 7), G32, V33)) fun W36 v37 =>
  gd (W36.2.2.1.1 r0 = .inl 9 ∧ is7 W36.2.2.1 W26.1) <|
  lt (sR W36.2.2.1 r0 3 (.ref W26.1)) fun G41 =>
  lt (zR (nw G41 W36.1 (.inl 6)) W36.1) fun G42 =>
  lt (z0 W36.2.2.2 W36.1) fun V43 =>
  gd (G42.1 r0 = .inl 9 ∧ G42.1 W36.1 = .inl 6) <|
  bd (F_X6_init W36.1 ((W36.1 + 1), (W36.2.1 + a_nf 6), G42, V43)) fun W46 v47 =>
  gd (W46.2.2.1.1 r0 = .inl 9 ∧ is6 W46.2.2.1 W36.1) <|
  lt (sR W46.2.2.1 r0 4 (.ref W36.1)) fun G51 =>
  lt (zR (nw G51 W46.1 (.inl 2)) W46.1) fun G52 =>
  lt (z0 W46.2.2.2 W46.1) fun V53 =>
  gd (G52.1 r0 = .inl 9 ∧ G52.1 W46.1 = .inl 2) <|
  bd (F_X2_init W46.1 ((W46.1 + 1), (W46.2.1 + a_nf 2), G52, V53)) fun W56 v57 =>
  gd (W56.2.2.1.1 r0 = .inl 9 ∧ is2 W56.2.2.1 W46.1) <|
  lt (sR W56.2.2.1 r0 5 (.ref W46.1)) fun G61 =>
  lt (zR (nw G61 W56.1 (.inl 0)) W56.1) fun G62 =>
  lt (z0 W56.2.2.2 W56.1) fun V63 =>
  gd (G62.1 r0 = .inl 9 ∧ G62.1 W56.1 = .inl 0) <|
  bd (F_X0_init W56.1 ((W56.1 + 1), (W56.2.1 + a_nf 0), G62, V63)) fun W66 v67 =>
  gd (W66.2.2.1.1 r0 = .inl 9 ∧ is0 W66.2.2.1 W56.1) <|
  lt (sR W66.2.2.1 r0 6 (.ref W56.1)) fun G71 =>
  lt (zR (nw G71 W66.1 (.inl 5)) W66.1) fun G72 =>
  lt (z0 W66.2.2.2 W66.1) fun V73 =>
  gd (G72.1 r0 = .inl 9 ∧ G72.1 W66.1 = .inl 5) <|
  bd (F_X5_init W66.1 ((W66.1 + 1), (W66.2.1 + a_nf 5), G72, V73)) fun W76 v77 =>
  gd (W76.2.2.1.1 r0 = .inl 9 ∧ is5 W76.2.2.1 W66.1) <|
  lt (sR W76.2.2.1 r0 7 (.ref W66.1)) fun G81 =>
  lt (zR (nw G81 W76.1 (.inl 4)) W76.1) fun G82 =>
  lt (z0 W76.2.2.2 W76.1) fun V83 =>
  gd (G82.1 r0 = .inl 9 ∧ G82.1 W76.1 = .inl 4) <|
  bd (F_X4_init W76.1 ((W76.1 + 1), (W76.2.1 + a_nf 4), G82, V83)) fun W86 v87 =>
  gd (W86.2.2.1.1 r0 = .inl 9 ∧ is4 W86.2.2.1 W76.1) <|
  lt (sR W86.2.2.1 r0 8 (.ref W76.1)) fun G91 =>
  lt (zR (nw G91 W86.1 (.inl 4)) W86.1) fun G92 =>
  lt (z0 W86.2.2.2 W86.1) fun V93 =>
  gd (G92.1 r0 = .inl 9 ∧ G92.1 W86.1 = .inl 4) <|
  bd (F_X4_init W86.1 ((W86.1 + 1), (W86.2.1 + a_nf 4), G92, V93)) fun W96 v97 =>
  gd (W96.2.2.1.1 r0 = .inl 9 ∧ is4 W96.2.2.1 W86.1) <|
  lt (sR W96.2.2.1 r0 9 (.ref W86.1)) fun G101 =>
  lt (zR (nw G101 W96.1 (.inl 1)) W96.1) fun G102 =>
  lt (z0 W96.2.2.2 W96.1) fun V103 =>
  gd (G102.1 r0 = .inl 9 ∧ G102.1 W96.1 = .inl 1) <|
  bd (F_X1_init W96.1 ((W96.1 + 1), (W96.2.1 + a_nf 1), G102, V103)) fun W106 v107 =>
  gd (W106.2.2.1.1 r0 = .inl 9 ∧ is1 W106.2.2.1 W96.1) <|
  lt (sR W106.2.2.1 r0 10 (.ref W96.1)) fun G111 =>
  lt (zR (nw G111 W106.1 (.inl 1)) W106.1) fun G112 =>
  lt (z0 W106.2.2.2 W106.1) fun V113 =>
  gd (G112.1 r0 = .inl 9 ∧ G112.1 W106.1 = .inl 1) <|
  bd (F_X1_init W106.1 ((W106.1 + 1), (W106.2.1 + a_nf 1), G112, V113)) fun W116 v117 =>
  gd (W116.2.2.1.1 r0 = .inl 9 ∧ is1 W116.2.2.1 W106.1) <|
  lt (sR W116.2.2.1 r0 11 (.ref W106.1)) fun G121 =>
  lt (sI W116.2.2.2 r0 12 (-1)) fun V122 =>
  lt (sJ V122 r0 13 1) fun V123 =>
  gd (G121.2.1 r0 2 = .ref (r0 + 5) ∧ is7 G121 (r0 + 5)) <|
  bd (F_X7_fill G121 (r0 + 5) 6 0 V123) fun V126 v127 =>
  gd (G121.2.1 r0 10 = .ref (gR G121 r0 10) ∧ is1 G121 (gR G121 r0 10)) <|
  bd (F_X1_clear G121 (gR G121 r0 10) V126) fun V131 v132 =>
  gd (G121.2.1 r0 8 = .ref (r0 + 227) ∧ is4 G121 (r0 + 227)) <|
  gd (G121.2.1 r0 10 = .ref (gR G121 r0 10) ∧ is1 G121 (gR G121 r0 10)) <|
  bd (F_X4_begin G121 (r0 + 227) (gR G121 r0 10) V131) fun V138 v139 =>
  some ((W116.1, W116.2.1, G121, V138), 0)
noncomputable def F_X10_init_J1520 (r0 : Nat) (W : mW) : Option (mW × Int) :=
  gd (W.2.2.1.1 r0 = .inl 10) <|
  lt (nw W.2.2.1 W.1 (.inr (0, 123))) fun G559 =>
  lt (zA W.2.2.2 W.1) fun V560 =>
  gd (G559.1 r0 = .inl 10 ∧ G559.1 W.1 = .inr (0, 123)) <|
  lt (sR G559 r0 107 (.ref W.1)) fun G563 =>
  some (((W.1 + 1), (W.2.1 + 123), G563, V560), 0)
noncomputable def F_X10_init_J1347 (r0 : Nat) (W : mW) : Option (mW × Int) :=
  gd (W.2.2.1.1 r0 = .inl 10) <|
  lt (nw W.2.2.1 W.1 (.inr (1, 3))) fun G496 =>
  lt (zA W.2.2.2 W.1) fun V497 =>
  gd (G496.1 r0 = .inl 10 ∧ G496.1 W.1 = .inr (1, 3)) <|
  lt (sA V497 W.1 0 111) fun V500 =>
  lt (sA V500 W.1 1 119) fun V501 =>
  lt (sA V501 W.1 2 110) fun V502 =>
  lt (sR G496 r0 92 (.ref W.1)) fun G503 =>
  lt (nw G503 (W.1 + 1) (.inr (1, 6))) fun G504 =>
  lt (zA V502 (W.1 + 1)) fun V505 =>
  gd (G504.1 r0 = .inl 10 ∧ G504.1 (W.1 + 1) = .inr (1, 6)) <|
  lt (sA V505 (W.1 + 1) 0 116) fun V508 =>
  lt (sA V508 (W.1 + 1) 1 104) fun V509 =>
  lt (sA V509 (W.1 + 1) 2 101) fun V510 =>
  lt (sA V510 (W.1 + 1) 3 105) fun V511 =>
  lt (sA V511 (W.1 + 1) 4 114) fun V512 =>
  lt (sA V512 (W.1 + 1) 5 115) fun V513 =>
  lt (sR G504 r0 93 (.ref (W.1 + 1))) fun G514 =>
  lt (nw G514 (W.1 + 2) (.inr (1, 4))) fun G515 =>
  lt (zA V513 (W.1 + 2)) fun V516 =>
  gd (G515.1 r0 = .inl 10 ∧ G515.1 (W.1 + 2) = .inr (1, 4)) <|
  lt (sA V516 (W.1 + 2) 0 104) fun V519 =>
  lt (sA V519 (W.1 + 2) 1 111) fun V520 =>
  lt (sA V520 (W.1 + 2) 2 117) fun V521 =>
  lt (sA V521 (W.1 + 2) 3 114) fun V522 =>
  lt (sR G515 r0 94 (.ref (W.1 + 2))) fun G523 =>
  lt (nw G523 (W.1 + 3) (.inr (1, 4))) fun G524 =>
  lt (zA V522 (W.1 + 3)) fun V525 =>
  gd (G524.1 r0 = .inl 10 ∧ G524.1 (W.1 + 3) = .inr (1, 4)) <|
  lt (sA V525 (W.1 + 3) 0 108) fun V528 =>
  lt (sA V528 (W.1 + 3) 1 105) fun V529 =>
  lt (sA V529 (W.1 + 3) 2 102) fun V530 =>
  lt (sA V530 (W.1 + 3) 3 101) fun V531 =>
  lt (sR G524 r0 95 (.ref (W.1 + 3))) fun G532 =>
  lt (nw G532 (W.1 + 4) (.inr (1, 5))) fun G533 =>
  lt (zA V531 (W.1 + 4)) fun V534 =>
  gd (G533.1 r0 = .inl 10 ∧ G533.1 (W.1 + 4) = .inr (1, 5)) <|
  lt (sA V534 (W.1 + 4) 0 100) fun V537 =>
  lt (sA V537 (W.1 + 4) 1 114) fun V538 =>
  lt (sA V538 (W.1 + 4) 2 105) fun V539 =>
  lt (sA V539 (W.1 + 4) 3 101) fun V540 =>
  lt (sA V540 (W.1 + 4) 4 115) fun V541 =>
  lt (sR G533 r0 96 (.ref (W.1 + 4))) fun G542 =>
  lt (nw G542 (W.1 + 5) (.inr (0, 1700))) fun G543 =>
  lt (zA V541 (W.1 + 5)) fun V544 =>
  gd (G543.1 r0 = .inl 10 ∧ G543.1 (W.1 + 5) = .inr (0, 1700)) <|
  lt (sR G543 r0 97 (.ref (W.1 + 5))) fun G547 =>
  lt (nw G547 (W.1 + 6) (.inr (0, 1700))) fun G548 =>
  lt (zA V544 (W.1 + 6)) fun V549 =>
  gd (G548.1 r0 = .inl 10 ∧ G548.1 (W.1 + 6) = .inr (0, 1700)) <|
  lt (sR G548 r0 99 (.ref (W.1 + 6))) fun G552 =>
  lt (nw G552 (W.1 + 7) (.inr (2, 1700))) fun G553 =>
  lt (zL V549 (W.1 + 7)) fun V554 =>
  gd (G553.1 r0 = .inl 10 ∧ G553.1 (W.1 + 7) = .inr (2, 1700)) <|
  lt (sR G553 r0 103 (.ref (W.1 + 7))) fun G557 =>
  F_X10_init_J1520 r0 ((W.1 + 8), ((((((((W.2.1 + 3) + 6) + 4) + 4) + 5) + 1700) + 1700) + 1700), G557, V554)
noncomputable def F_X10_init_J1157 (r0 : Nat) (W : mW) : Option (mW × Int) :=
  gd (W.2.2.1.1 r0 = .inl 10) <|
  lt (nw W.2.2.1 W.1 (.inr (1, 3))) fun G432 =>
  lt (zA W.2.2.2 W.1) fun V433 =>
  gd (G432.1 r0 = .inl 10 ∧ G432.1 W.1 = .inr (1, 3)) <|
  lt (sA V433 W.1 0 109) fun V436 =>
  lt (sA V436 W.1 1 105) fun V437 =>
  lt (sA V437 W.1 2 110) fun V438 =>
  lt (sR G432 r0 85 (.ref W.1)) fun G439 =>
  lt (nw G439 (W.1 + 1) (.inr (1, 3))) fun G440 =>
  lt (zA V438 (W.1 + 1)) fun V441 =>
  gd (G440.1 r0 = .inl 10 ∧ G440.1 (W.1 + 1) = .inr (1, 3)) <|
  lt (sA V441 (W.1 + 1) 0 109) fun V444 =>
  lt (sA V444 (W.1 + 1) 1 97) fun V445 =>
  lt (sA V445 (W.1 + 1) 2 120) fun V446 =>
  lt (sR G440 r0 86 (.ref (W.1 + 1))) fun G447 =>
  lt (nw G447 (W.1 + 2) (.inr (1, 5))) fun G448 =>
  lt (zA V446 (W.1 + 2)) fun V449 =>
  gd (G448.1 r0 = .inl 10 ∧ G448.1 (W.1 + 2) = .inr (1, 5)) <|
  lt (sA V449 (W.1 + 2) 0 99) fun V452 =>
  lt (sA V452 (W.1 + 2) 1 108) fun V453 =>
  lt (sA V453 (W.1 + 2) 2 111) fun V454 =>
  lt (sA V454 (W.1 + 2) 3 99) fun V455 =>
  lt (sA V455 (W.1 + 2) 4 107) fun V456 =>
  lt (sR G448 r0 87 (.ref (W.1 + 2))) fun G457 =>
  lt (nw G457 (W.1 + 3) (.inr (1, 3))) fun G458 =>
  lt (zA V456 (W.1 + 3)) fun V459 =>
  gd (G458.1 r0 = .inl 10 ∧ G458.1 (W.1 + 3) = .inr (1, 3)) <|
  lt (sA V459 (W.1 + 3) 0 100) fun V462 =>
  lt (sA V462 (W.1 + 3) 1 97) fun V463 =>
  lt (sA V463 (W.1 + 3) 2 121) fun V464 =>
  lt (sR G458 r0 88 (.ref (W.1 + 3))) fun G465 =>
  lt (nw G465 (W.1 + 4) (.inr (1, 6))) fun G466 =>
  lt (zA V464 (W.1 + 4)) fun V467 =>
  gd (G466.1 r0 = .inl 10 ∧ G466.1 (W.1 + 4) = .inr (1, 6)) <|
  lt (sA V467 (W.1 + 4) 0 112) fun V470 =>
  lt (sA V470 (W.1 + 4) 1 111) fun V471 =>
  lt (sA V471 (W.1 + 4) 2 105) fun V472 =>
  lt (sA V472 (W.1 + 4) 3 110) fun V473 =>
  lt (sA V473 (W.1 + 4) 4 116) fun V474 =>
  lt (sA V474 (W.1 + 4) 5 115) fun V475 =>
  lt (sR G466 r0 89 (.ref (W.1 + 4))) fun G476 =>
  lt (nw G476 (W.1 + 5) (.inr (1, 4))) fun G477 =>
  lt (zA V475 (W.1 + 5)) fun V478 =>
  gd (G477.1 r0 = .inl 10 ∧ G477.1 (W.1 + 5) = .inr (1, 4)) <|
  lt (sA V478 (W.1 + 5) 0 115) fun V481 =>
  lt (sA V481 (W.1 + 5) 1 97) fun V482 =>
  lt (sA V482 (W.1 + 5) 2 109) fun V483 =>
  lt (sA V483 (W.1 + 5) 3 101) fun V484 =>
  lt (sR G477 r0 90 (.ref (W.1 + 5))) fun G485 =>
  lt (nw G485 (W.1 + 6) (.inr (1, 4))) fun G486 =>
  lt (zA V484 (W.1 + 6)) fun V487 =>
  gd (G486.1 r0 = .inl 10 ∧ G486.1 (W.1 + 6) = .inr (1, 4)) <|
  lt (sA V487 (W.1 + 6) 0 104) fun V490 =>
  lt (sA V490 (W.1 + 6) 1 97) fun V491 =>
  lt (sA V491 (W.1 + 6) 2 114) fun V492 =>
  lt (sA V492 (W.1 + 6) 3 100) fun V493 =>
  lt (sR G486 r0 91 (.ref (W.1 + 6))) fun G494 =>
  F_X10_init_J1347 r0 ((W.1 + 7), (((((((W.2.1 + 3) + 3) + 5) + 3) + 6) + 4) + 4), G494, V493)
noncomputable def F_X10_init_J983 (r0 : Nat) (W : mW) : Option (mW × Int) :=
  gd (W.2.2.1.1 r0 = .inl 10) <|
  lt (nw W.2.2.1 W.1 (.inr (1, 5))) fun G371 =>
  lt (zA W.2.2.2 W.1) fun V372 =>
  gd (G371.1 r0 = .inl 10 ∧ G371.1 W.1 = .inr (1, 5)) <|
  lt (sA V372 W.1 0 116) fun V375 =>
  lt (sA V375 W.1 1 111) fun V376 =>
  lt (sA V376 W.1 2 116) fun V377 =>
  lt (sA V377 W.1 3 97) fun V378 =>
  lt (sA V378 W.1 4 108) fun V379 =>
  lt (sR G371 r0 78 (.ref W.1)) fun G380 =>
  lt (nw G380 (W.1 + 1) (.inr (1, 4))) fun G381 =>
  lt (zA V379 (W.1 + 1)) fun V382 =>
  gd (G381.1 r0 = .inl 10 ∧ G381.1 (W.1 + 1) = .inr (1, 4)) <|
  lt (sA V382 (W.1 + 1) 0 109) fun V385 =>
  lt (sA V385 (W.1 + 1) 1 111) fun V386 =>
  lt (sA V386 (W.1 + 1) 2 115) fun V387 =>
  lt (sA V387 (W.1 + 1) 3 116) fun V388 =>
  lt (sR G381 r0 79 (.ref (W.1 + 1))) fun G389 =>
  lt (nw G389 (W.1 + 2) (.inr (1, 5))) fun G390 =>
  lt (zA V388 (W.1 + 2)) fun V391 =>
  gd (G390.1 r0 = .inl 10 ∧ G390.1 (W.1 + 2) = .inr (1, 5)) <|
  lt (sA V391 (W.1 + 2) 0 108) fun V394 =>
  lt (sA V394 (W.1 + 2) 1 101) fun V395 =>
  lt (sA V395 (W.1 + 2) 2 97) fun V396 =>
  lt (sA V396 (W.1 + 2) 3 115) fun V397 =>
  lt (sA V397 (W.1 + 2) 4 116) fun V398 =>
  lt (sR G390 r0 80 (.ref (W.1 + 2))) fun G399 =>
  lt (nw G399 (W.1 + 3) (.inr (1, 3))) fun G400 =>
  lt (zA V398 (W.1 + 3)) fun V401 =>
  gd (G400.1 r0 = .inl 10 ∧ G400.1 (W.1 + 3) = .inr (1, 3)) <|
  lt (sA V401 (W.1 + 3) 0 110) fun V404 =>
  lt (sA V404 (W.1 + 3) 1 111) fun V405 =>
  lt (sA V405 (W.1 + 3) 2 116) fun V406 =>
  lt (sR G400 r0 81 (.ref (W.1 + 3))) fun G407 =>
  lt (nw G407 (W.1 + 4) (.inr (1, 3))) fun G408 =>
  lt (zA V406 (W.1 + 4)) fun V409 =>
  gd (G408.1 r0 = .inl 10 ∧ G408.1 (W.1 + 4) = .inr (1, 3)) <|
  lt (sA V409 (W.1 + 4) 0 97) fun V412 =>
  lt (sA V412 (W.1 + 4) 1 110) fun V413 =>
  lt (sA V413 (W.1 + 4) 2 100) fun V414 =>
  lt (sR G408 r0 82 (.ref (W.1 + 4))) fun G415 =>
  lt (nw G415 (W.1 + 5) (.inr (1, 2))) fun G416 =>
  lt (zA V414 (W.1 + 5)) fun V417 =>
  gd (G416.1 r0 = .inl 10 ∧ G416.1 (W.1 + 5) = .inr (1, 2)) <|
  lt (sA V417 (W.1 + 5) 0 111) fun V420 =>
  lt (sA V420 (W.1 + 5) 1 114) fun V421 =>
  lt (sR G416 r0 83 (.ref (W.1 + 5))) fun G422 =>
  lt (nw G422 (W.1 + 6) (.inr (1, 3))) fun G423 =>
  lt (zA V421 (W.1 + 6)) fun V424 =>
  gd (G423.1 r0 = .inl 10 ∧ G423.1 (W.1 + 6) = .inr (1, 3)) <|
  lt (sA V424 (W.1 + 6) 0 97) fun V427 =>
  lt (sA V427 (W.1 + 6) 1 108) fun V428 =>
  lt (sA V428 (W.1 + 6) 2 108) fun V429 =>
  lt (sR G423 r0 84 (.ref (W.1 + 6))) fun G430 =>
  F_X10_init_J1157 r0 ((W.1 + 7), (((((((W.2.1 + 5) + 4) + 5) + 3) + 3) + 2) + 3), G430, V429)
noncomputable def F_X10_init_J821 (r0 : Nat) (W : mW) : Option (mW × Int) :=
  gd (W.2.2.1.1 r0 = .inl 10) <|
  lt (nw W.2.2.1 W.1 (.inr (0, 282))) fun G300 =>
  lt (zA W.2.2.2 W.1) fun V301 =>
  gd (G300.1 r0 = .inl 10 ∧ G300.1 W.1 = .inr (0, 282)) <|
  lt (sR G300 r0 50 (.ref W.1)) fun G304 =>
  lt (nw G304 (W.1 + 1) (.inr (0, 3))) fun G305 =>
  lt (zA V301 (W.1 + 1)) fun V306 =>
  gd (G305.1 r0 = .inl 10 ∧ G305.1 (W.1 + 1) = .inr (0, 3)) <|
  lt (sR G305 r0 59 (.ref (W.1 + 1))) fun G309 =>
  lt (nw G309 (W.1 + 2) (.inr (0, 10))) fun G310 =>
  lt (zA V306 (W.1 + 2)) fun V311 =>
  gd (G310.1 r0 = .inl 10 ∧ G310.1 (W.1 + 2) = .inr (0, 10)) <|
  lt (sR G310 r0 60 (.ref (W.1 + 2))) fun G314 =>
  lt (nw G314 (W.1 + 3) (.inr (0, 10))) fun G315 =>
  lt (zA V311 (W.1 + 3)) fun V316 =>
  gd (G315.1 r0 = .inl 10 ∧ G315.1 (W.1 + 3) = .inr (0, 10)) <|
  lt (sR G315 r0 63 (.ref (W.1 + 3))) fun G319 =>
  lt (nw G319 (W.1 + 4) (.inr (0, 11264))) fun G320 =>
  lt (zA V316 (W.1 + 4)) fun V321 =>
  gd (G320.1 r0 = .inl 10 ∧ G320.1 (W.1 + 4) = .inr (0, 11264)) <|
  lt (sR G320 r0 66 (.ref (W.1 + 4))) fun G324 =>
  lt (nw G324 (W.1 + 5) (.inr (0, 100))) fun G325 =>
  lt (zA V321 (W.1 + 5)) fun V326 =>
  gd (G325.1 r0 = .inl 10 ∧ G325.1 (W.1 + 5) = .inr (0, 100)) <|
  lt (sR G325 r0 67 (.ref (W.1 + 5))) fun G329 =>
  lt (nw G329 (W.1 + 6) (.inr (0, 5640))) fun G330 =>
  lt (zA V326 (W.1 + 6)) fun V331 =>
  gd (G330.1 r0 = .inl 10 ∧ G330.1 (W.1 + 6) = .inr (0, 5640)) <|
  lt (sR G330 r0 68 (.ref (W.1 + 6))) fun G334 =>
  lt (sJ V331 r0 71 1) fun V335 =>
  lt (nw G334 (W.1 + 7) (.inr (0, 60))) fun G336 =>
  lt (zA V335 (W.1 + 7)) fun V337 =>
  gd (G336.1 r0 = .inl 10 ∧ G336.1 (W.1 + 7) = .inr (0, 60)) <|
  lt (sR G336 r0 74 (.ref (W.1 + 7))) fun G340 =>
  lt (nw G340 (W.1 + 8) (.inr (1, 5))) fun G341 =>
  lt (zA V337 (W.1 + 8)) fun V342 =>
  gd (G341.1 r0 = .inl 10 ∧ G341.1 (W.1 + 8) = .inr (1, 5)) <|
  lt (sA V342 (W.1 + 8) 0 102) fun V345 =>
  lt (sA V345 (W.1 + 8) 1 105) fun V346 =>
  lt (sA V346 (W.1 + 8) 2 114) fun V347 =>
  lt (sA V347 (W.1 + 8) 3 115) fun V348 =>
  lt (sA V348 (W.1 + 8) 4 116) fun V349 =>
  lt (sR G341 r0 75 (.ref (W.1 + 8))) fun G350 =>
  lt (nw G350 (W.1 + 9) (.inr (1, 4))) fun G351 =>
  lt (zA V349 (W.1 + 9)) fun V352 =>
  gd (G351.1 r0 = .inl 10 ∧ G351.1 (W.1 + 9) = .inr (1, 4)) <|
  lt (sA V352 (W.1 + 9) 0 108) fun V355 =>
  lt (sA V355 (W.1 + 9) 1 97) fun V356 =>
  lt (sA V356 (W.1 + 9) 2 115) fun V357 =>
  lt (sA V357 (W.1 + 9) 3 116) fun V358 =>
  lt (sR G351 r0 76 (.ref (W.1 + 9))) fun G359 =>
  lt (nw G359 (W.1 + 10) (.inr (1, 5))) fun G360 =>
  lt (zA V358 (W.1 + 10)) fun V361 =>
  gd (G360.1 r0 = .inl 10 ∧ G360.1 (W.1 + 10) = .inr (1, 5)) <|
  lt (sA V361 (W.1 + 10) 0 111) fun V364 =>
  lt (sA V364 (W.1 + 10) 1 102) fun V365 =>
  lt (sA V365 (W.1 + 10) 2 116) fun V366 =>
  lt (sA V366 (W.1 + 10) 3 101) fun V367 =>
  lt (sA V367 (W.1 + 10) 4 110) fun V368 =>
  lt (sR G360 r0 77 (.ref (W.1 + 10))) fun G369 =>
  F_X10_init_J983 r0 ((W.1 + 11), (((((((((((W.2.1 + 282) + 3) + 10) + 10) + 11264) + 100) + 5640) + 60) + 5) + 4) + 5), G369, V368)
noncomputable def F_X10_init_J695 (r0 : Nat) (W : mW) : Option (mW × Int) :=
  gd (W.2.2.1.1 r0 = .inl 10) <|
  lt (nw W.2.2.1 W.1 (.inr (0, 6))) fun G236 =>
  lt (zA W.2.2.2 W.1) fun V237 =>
  gd (G236.1 r0 = .inl 10 ∧ G236.1 W.1 = .inr (0, 6)) <|
  lt (sR G236 r0 36 (.ref W.1)) fun G240 =>
  lt (nw G240 (W.1 + 1) (.inr (2, 40))) fun G241 =>
  lt (zL V237 (W.1 + 1)) fun V242 =>
  gd (G241.1 r0 = .inl 10 ∧ G241.1 (W.1 + 1) = .inr (2, 40)) <|
  lt (sR G241 r0 37 (.ref (W.1 + 1))) fun G245 =>
  lt (nw G245 (W.1 + 2) (.inr (0, 40))) fun G246 =>
  lt (zA V242 (W.1 + 2)) fun V247 =>
  gd (G246.1 r0 = .inl 10 ∧ G246.1 (W.1 + 2) = .inr (0, 40)) <|
  lt (sR G246 r0 38 (.ref (W.1 + 2))) fun G250 =>
  lt (nw G250 (W.1 + 3) (.inr (0, 144))) fun G251 =>
  lt (zA V247 (W.1 + 3)) fun V252 =>
  gd (G251.1 r0 = .inl 10 ∧ G251.1 (W.1 + 3) = .inr (0, 144)) <|
  lt (sR G251 r0 39 (.ref (W.1 + 3))) fun G255 =>
  lt (nw G255 (W.1 + 4) (.inr (0, 20))) fun G256 =>
  lt (zA V252 (W.1 + 4)) fun V257 =>
  gd (G256.1 r0 = .inl 10 ∧ G256.1 (W.1 + 4) = .inr (0, 20)) <|
  lt (sR G256 r0 40 (.ref (W.1 + 4))) fun G260 =>
  lt (nw G260 (W.1 + 5) (.inr (0, 20))) fun G261 =>
  lt (zA V257 (W.1 + 5)) fun V262 =>
  gd (G261.1 r0 = .inl 10 ∧ G261.1 (W.1 + 5) = .inr (0, 20)) <|
  lt (sR G261 r0 41 (.ref (W.1 + 5))) fun G265 =>
  lt (nw G265 (W.1 + 6) (.inr (0, 200))) fun G266 =>
  lt (zA V262 (W.1 + 6)) fun V267 =>
  gd (G266.1 r0 = .inl 10 ∧ G266.1 (W.1 + 6) = .inr (0, 200)) <|
  lt (sR G266 r0 42 (.ref (W.1 + 6))) fun G270 =>
  lt (nw G270 (W.1 + 7) (.inr (0, 8))) fun G271 =>
  lt (zA V267 (W.1 + 7)) fun V272 =>
  gd (G271.1 r0 = .inl 10 ∧ G271.1 (W.1 + 7) = .inr (0, 8)) <|
  lt (sA V272 (W.1 + 7) 0 (-1)) fun V275 =>
  lt (sA V275 (W.1 + 7) 1 (-1)) fun V276 =>
  lt (sA V276 (W.1 + 7) 2 (-1)) fun V277 =>
  lt (sA V277 (W.1 + 7) 3 (-1)) fun V278 =>
  lt (sA V278 (W.1 + 7) 4 (-1)) fun V279 =>
  lt (sA V279 (W.1 + 7) 5 (-1)) fun V280 =>
  lt (sA V280 (W.1 + 7) 6 (-1)) fun V281 =>
  lt (sA V281 (W.1 + 7) 7 (-1)) fun V282 =>
  lt (sR G271 r0 43 (.ref (W.1 + 7))) fun G283 =>
  lt (nw G283 (W.1 + 8) (.inr (0, 8))) fun G284 =>
  lt (zA V282 (W.1 + 8)) fun V285 =>
  gd (G284.1 r0 = .inl 10 ∧ G284.1 (W.1 + 8) = .inr (0, 8)) <|
  lt (sR G284 r0 44 (.ref (W.1 + 8))) fun G288 =>
  lt (nw G288 (W.1 + 9) (.inr (0, 3200))) fun G289 =>
  lt (zA V285 (W.1 + 9)) fun V290 =>
  gd (G289.1 r0 = .inl 10 ∧ G289.1 (W.1 + 9) = .inr (0, 3200)) <|
  lt (sR G289 r0 45 (.ref (W.1 + 9))) fun G293 =>
  lt (nw G293 (W.1 + 10) (.inr (0, 282))) fun G294 =>
  lt (zA V290 (W.1 + 10)) fun V295 =>
  gd (G294.1 r0 = .inl 10 ∧ G294.1 (W.1 + 10) = .inr (0, 282)) <|
  lt (sR G294 r0 49 (.ref (W.1 + 10))) fun G298 =>
  F_X10_init_J821 r0 ((W.1 + 11), (((((((((((W.2.1 + 6) + 40) + 40) + 144) + 20) + 20) + 200) + 8) + 8) + 3200) + 282), G298, V295)
noncomputable def F_X10_init_J530 (r0 : Nat) (W : mW) : Option (mW × Int) :=
  gd (W.2.2.1.1 r0 = .inl 10) <|
  lt (nw W.2.2.1 W.1 (.inr (1, 6))) fun G177 =>
  lt (zA W.2.2.2 W.1) fun V178 =>
  gd (G177.1 r0 = .inl 10 ∧ G177.1 W.1 = .inr (1, 6)) <|
  lt (sA V178 W.1 0 116) fun V181 =>
  lt (sA V181 W.1 1 104) fun V182 =>
  lt (sA V182 W.1 2 101) fun V183 =>
  lt (sA V183 W.1 3 105) fun V184 =>
  lt (sA V184 W.1 4 114) fun V185 =>
  lt (sA V185 W.1 5 115) fun V186 =>
  lt (sR G177 r0 28 (.ref W.1)) fun G187 =>
  lt (nw G187 (W.1 + 1) (.inr (1, 2))) fun G188 =>
  lt (zA V186 (W.1 + 1)) fun V189 =>
  gd (G188.1 r0 = .inl 10 ∧ G188.1 (W.1 + 1) = .inr (1, 2)) <|
  lt (sA V189 (W.1 + 1) 0 111) fun V192 =>
  lt (sA V192 (W.1 + 1) 1 114) fun V193 =>
  lt (sR G188 r0 29 (.ref (W.1 + 1))) fun G194 =>
  lt (nw G194 (W.1 + 2) (.inr (1, 3))) fun G195 =>
  lt (zA V193 (W.1 + 2)) fun V196 =>
  gd (G195.1 r0 = .inl 10 ∧ G195.1 (W.1 + 2) = .inr (1, 3)) <|
  lt (sA V196 (W.1 + 2) 0 97) fun V199 =>
  lt (sA V199 (W.1 + 2) 1 110) fun V200 =>
  lt (sA V200 (W.1 + 2) 2 100) fun V201 =>
  lt (sR G195 r0 30 (.ref (W.1 + 2))) fun G202 =>
  lt (nw G202 (W.1 + 3) (.inr (1, 3))) fun G203 =>
  lt (zA V201 (W.1 + 3)) fun V204 =>
  gd (G203.1 r0 = .inl 10 ∧ G203.1 (W.1 + 3) = .inr (1, 3)) <|
  lt (sA V204 (W.1 + 3) 0 110) fun V207 =>
  lt (sA V207 (W.1 + 3) 1 111) fun V208 =>
  lt (sA V208 (W.1 + 3) 2 116) fun V209 =>
  lt (sR G203 r0 31 (.ref (W.1 + 3))) fun G210 =>
  lt (nw G210 (W.1 + 4) (.inr (1, 3))) fun G211 =>
  lt (zA V209 (W.1 + 4)) fun V212 =>
  gd (G211.1 r0 = .inl 10 ∧ G211.1 (W.1 + 4) = .inr (1, 3)) <|
  lt (sA V212 (W.1 + 4) 0 97) fun V215 =>
  lt (sA V215 (W.1 + 4) 1 108) fun V216 =>
  lt (sA V216 (W.1 + 4) 2 108) fun V217 =>
  lt (sR G211 r0 32 (.ref (W.1 + 4))) fun G218 =>
  lt (nw G218 (W.1 + 5) (.inr (1, 3))) fun G219 =>
  lt (zA V217 (W.1 + 5)) fun V220 =>
  gd (G219.1 r0 = .inl 10 ∧ G219.1 (W.1 + 5) = .inr (1, 3)) <|
  lt (sA V220 (W.1 + 5) 0 109) fun V223 =>
  lt (sA V223 (W.1 + 5) 1 105) fun V224 =>
  lt (sA V224 (W.1 + 5) 2 110) fun V225 =>
  lt (sR G219 r0 33 (.ref (W.1 + 5))) fun G226 =>
  lt (nw G226 (W.1 + 6) (.inr (1, 3))) fun G227 =>
  lt (zA V225 (W.1 + 6)) fun V228 =>
  gd (G227.1 r0 = .inl 10 ∧ G227.1 (W.1 + 6) = .inr (1, 3)) <|
  lt (sA V228 (W.1 + 6) 0 109) fun V231 =>
  lt (sA V231 (W.1 + 6) 1 97) fun V232 =>
  lt (sA V232 (W.1 + 6) 2 120) fun V233 =>
  lt (sR G227 r0 34 (.ref (W.1 + 6))) fun G234 =>
  F_X10_init_J695 r0 ((W.1 + 7), (((((((W.2.1 + 6) + 2) + 3) + 3) + 3) + 3) + 3), G234, V233)
noncomputable def F_X10_init_J351 (r0 : Nat) (W : mW) : Option (mW × Int) :=
  gd (W.2.2.1.1 r0 = .inl 10) <|
  lt (nw W.2.2.1 W.1 (.inr (1, 6))) fun G119 =>
  lt (zA W.2.2.2 W.1) fun V120 =>
  gd (G119.1 r0 = .inl 10 ∧ G119.1 W.1 = .inr (1, 6)) <|
  lt (sA V120 W.1 0 110) fun V123 =>
  lt (sA V123 W.1 1 111) fun V124 =>
  lt (sA V124 W.1 2 116) fun V125 =>
  lt (sA V125 W.1 3 105) fun V126 =>
  lt (sA V126 W.1 4 99) fun V127 =>
  lt (sA V127 W.1 5 101) fun V128 =>
  lt (sR G119 r0 22 (.ref W.1)) fun G129 =>
  lt (nw G129 (W.1 + 1) (.inr (1, 5))) fun G130 =>
  lt (zA V128 (W.1 + 1)) fun V131 =>
  gd (G130.1 r0 = .inl 10 ∧ G130.1 (W.1 + 1) = .inr (1, 5)) <|
  lt (sA V131 (W.1 + 1) 0 99) fun V134 =>
  lt (sA V134 (W.1 + 1) 1 108) fun V135 =>
  lt (sA V135 (W.1 + 1) 2 111) fun V136 =>
  lt (sA V136 (W.1 + 1) 3 99) fun V137 =>
  lt (sA V137 (W.1 + 1) 4 107) fun V138 =>
  lt (sR G130 r0 23 (.ref (W.1 + 1))) fun G139 =>
  lt (nw G139 (W.1 + 2) (.inr (1, 3))) fun G140 =>
  lt (zA V138 (W.1 + 2)) fun V141 =>
  gd (G140.1 r0 = .inl 10 ∧ G140.1 (W.1 + 2) = .inr (1, 3)) <|
  lt (sA V141 (W.1 + 2) 0 100) fun V144 =>
  lt (sA V144 (W.1 + 2) 1 97) fun V145 =>
  lt (sA V145 (W.1 + 2) 2 121) fun V146 =>
  lt (sR G140 r0 24 (.ref (W.1 + 2))) fun G147 =>
  lt (nw G147 (W.1 + 3) (.inr (1, 6))) fun G148 =>
  lt (zA V146 (W.1 + 3)) fun V149 =>
  gd (G148.1 r0 = .inl 10 ∧ G148.1 (W.1 + 3) = .inr (1, 6)) <|
  lt (sA V149 (W.1 + 3) 0 112) fun V152 =>
  lt (sA V152 (W.1 + 3) 1 111) fun V153 =>
  lt (sA V153 (W.1 + 3) 2 105) fun V154 =>
  lt (sA V154 (W.1 + 3) 3 110) fun V155 =>
  lt (sA V155 (W.1 + 3) 4 116) fun V156 =>
  lt (sA V156 (W.1 + 3) 5 115) fun V157 =>
  lt (sR G148 r0 25 (.ref (W.1 + 3))) fun G158 =>
  lt (nw G158 (W.1 + 4) (.inr (1, 4))) fun G159 =>
  lt (zA V157 (W.1 + 4)) fun V160 =>
  gd (G159.1 r0 = .inl 10 ∧ G159.1 (W.1 + 4) = .inr (1, 4)) <|
  lt (sA V160 (W.1 + 4) 0 115) fun V163 =>
  lt (sA V163 (W.1 + 4) 1 97) fun V164 =>
  lt (sA V164 (W.1 + 4) 2 109) fun V165 =>
  lt (sA V165 (W.1 + 4) 3 101) fun V166 =>
  lt (sR G159 r0 26 (.ref (W.1 + 4))) fun G167 =>
  lt (nw G167 (W.1 + 5) (.inr (1, 3))) fun G168 =>
  lt (zA V166 (W.1 + 5)) fun V169 =>
  gd (G168.1 r0 = .inl 10 ∧ G168.1 (W.1 + 5) = .inr (1, 3)) <|
  lt (sA V169 (W.1 + 5) 0 111) fun V172 =>
  lt (sA V172 (W.1 + 5) 1 119) fun V173 =>
  lt (sA V173 (W.1 + 5) 2 110) fun V174 =>
  lt (sR G168 r0 27 (.ref (W.1 + 5))) fun G175 =>
  F_X10_init_J530 r0 ((W.1 + 6), ((((((W.2.1 + 6) + 5) + 3) + 6) + 4) + 3), G175, V174)
noncomputable def F_X10_init_J172 (r0 : Nat) (W : mW) : Option (mW × Int) :=
  gd (W.2.2.1.1 r0 = .inl 10) <|
  lt (nw W.2.2.1 W.1 (.inr (1, 2))) fun G61 =>
  lt (zA W.2.2.2 W.1) fun V62 =>
  gd (G61.1 r0 = .inl 10 ∧ G61.1 W.1 = .inr (1, 2)) <|
  lt (sA V62 W.1 0 97) fun V65 =>
  lt (sA V65 W.1 1 116) fun V66 =>
  lt (sR G61 r0 16 (.ref W.1)) fun G67 =>
  lt (nw G67 (W.1 + 1) (.inr (1, 6))) fun G68 =>
  lt (zA V66 (W.1 + 1)) fun V69 =>
  gd (G68.1 r0 = .inl 10 ∧ G68.1 (W.1 + 1) = .inr (1, 6)) <|
  lt (sA V69 (W.1 + 1) 0 99) fun V72 =>
  lt (sA V72 (W.1 + 1) 1 111) fun V73 =>
  lt (sA V73 (W.1 + 1) 2 118) fun V74 =>
  lt (sA V74 (W.1 + 1) 3 101) fun V75 =>
  lt (sA V75 (W.1 + 1) 4 114) fun V76 =>
  lt (sA V76 (W.1 + 1) 5 115) fun V77 =>
  lt (sR G68 r0 17 (.ref (W.1 + 1))) fun G78 =>
  lt (nw G78 (W.1 + 2) (.inr (1, 5))) fun G79 =>
  lt (zA V77 (W.1 + 2)) fun V80 =>
  gd (G79.1 r0 = .inl 10 ∧ G79.1 (W.1 + 2) = .inr (1, 5)) <|
  lt (sA V80 (W.1 + 2) 0 107) fun V83 =>
  lt (sA V83 (W.1 + 2) 1 110) fun V84 =>
  lt (sA V84 (W.1 + 2) 2 111) fun V85 =>
  lt (sA V85 (W.1 + 2) 3 119) fun V86 =>
  lt (sA V86 (W.1 + 2) 4 115) fun V87 =>
  lt (sR G79 r0 18 (.ref (W.1 + 2))) fun G88 =>
  lt (nw G88 (W.1 + 3) (.inr (1, 5))) fun G89 =>
  lt (zA V87 (W.1 + 3)) fun V90 =>
  gd (G89.1 r0 = .inl 10 ∧ G89.1 (W.1 + 3) = .inr (1, 5)) <|
  lt (sA V90 (W.1 + 3) 0 108) fun V93 =>
  lt (sA V93 (W.1 + 3) 1 101) fun V94 =>
  lt (sA V94 (W.1 + 3) 2 97) fun V95 =>
  lt (sA V95 (W.1 + 3) 3 114) fun V96 =>
  lt (sA V96 (W.1 + 3) 4 110) fun V97 =>
  lt (sR G89 r0 19 (.ref (W.1 + 3))) fun G98 =>
  lt (nw G98 (W.1 + 4) (.inr (1, 6))) fun G99 =>
  lt (zA V97 (W.1 + 4)) fun V100 =>
  gd (G99.1 r0 = .inl 10 ∧ G99.1 (W.1 + 4) = .inr (1, 6)) <|
  lt (sA V100 (W.1 + 4) 0 102) fun V103 =>
  lt (sA V103 (W.1 + 4) 1 111) fun V104 =>
  lt (sA V104 (W.1 + 4) 2 114) fun V105 =>
  lt (sA V105 (W.1 + 4) 3 103) fun V106 =>
  lt (sA V106 (W.1 + 4) 4 101) fun V107 =>
  lt (sA V107 (W.1 + 4) 5 116) fun V108 =>
  lt (sR G99 r0 20 (.ref (W.1 + 4))) fun G109 =>
  lt (nw G109 (W.1 + 5) (.inr (1, 3))) fun G110 =>
  lt (zA V108 (W.1 + 5)) fun V111 =>
  gd (G110.1 r0 = .inl 10 ∧ G110.1 (W.1 + 5) = .inr (1, 3)) <|
  lt (sA V111 (W.1 + 5) 0 99) fun V114 =>
  lt (sA V114 (W.1 + 5) 1 97) fun V115 =>
  lt (sA V115 (W.1 + 5) 2 110) fun V116 =>
  lt (sR G110 r0 21 (.ref (W.1 + 5))) fun G117 =>
  F_X10_init_J351 r0 ((W.1 + 6), ((((((W.2.1 + 2) + 6) + 5) + 5) + 6) + 3), G117, V116)
noncomputable def F_X10_init (r0 : Nat) (W : mW) : Option (mW × Int) :=
  gd (W.2.2.1.1 r0 = .inl 10) <|
  lt (nw W.2.2.1 W.1 (.inr (0, 1600))) fun G2 =>
  lt (zA W.2.2.2 W.1) fun V3 =>
  gd (G2.1 r0 = .inl 10 ∧ G2.1 W.1 = .inr (0, 1600)) <|
  lt (sR G2 r0 0 (.ref W.1)) fun G6 =>
  lt (sI V3 r0 8 (-1)) fun V7 =>
  lt (nw G6 (W.1 + 1) (.inr (0, 6))) fun G8 =>
  lt (zA V7 (W.1 + 1)) fun V9 =>
  gd (G8.1 r0 = .inl 10 ∧ G8.1 (W.1 + 1) = .inr (0, 6)) <|
  lt (sR G8 r0 9 (.ref (W.1 + 1))) fun G12 =>
  lt (nw G12 (W.1 + 2) (.inr (1, 6))) fun G13 =>
  lt (zA V9 (W.1 + 2)) fun V14 =>
  gd (G13.1 r0 = .inl 10 ∧ G13.1 (W.1 + 2) = .inr (1, 6)) <|
  lt (sA V14 (W.1 + 2) 0 112) fun V17 =>
  lt (sA V17 (W.1 + 2) 1 101) fun V18 =>
  lt (sA V18 (W.1 + 2) 2 114) fun V19 =>
  lt (sA V19 (W.1 + 2) 3 115) fun V20 =>
  lt (sA V20 (W.1 + 2) 4 111) fun V21 =>
  lt (sA V21 (W.1 + 2) 5 110) fun V22 =>
  lt (sR G13 r0 11 (.ref (W.1 + 2))) fun G23 =>
  lt (nw G23 (W.1 + 3) (.inr (1, 4))) fun G24 =>
  lt (zA V22 (W.1 + 3)) fun V25 =>
  gd (G24.1 r0 = .inl 10 ∧ G24.1 (W.1 + 3) = .inr (1, 4)) <|
  lt (sA V25 (W.1 + 3) 0 119) fun V28 =>
  lt (sA V28 (W.1 + 3) 1 97) fun V29 =>
  lt (sA V29 (W.1 + 3) 2 114) fun V30 =>
  lt (sA V30 (W.1 + 3) 3 100) fun V31 =>
  lt (sR G24 r0 12 (.ref (W.1 + 3))) fun G32 =>
  lt (nw G32 (W.1 + 4) (.inr (1, 4))) fun G33 =>
  lt (zA V31 (W.1 + 4)) fun V34 =>
  gd (G33.1 r0 = .inl 10 ∧ G33.1 (W.1 + 4) = .inr (1, 4)) <|
  lt (sA V34 (W.1 + 4) 0 116) fun V37 =>
  lt (sA V37 (W.1 + 4) 1 97) fun V38 =>
  lt (sA V38 (W.1 + 4) 2 115) fun V39 =>
  lt (sA V39 (W.1 + 4) 3 107) fun V40 =>
  lt (sR G33 r0 13 (.ref (W.1 + 4))) fun G41 =>
  lt (nw G41 (W.1 + 5) (.inr (1, 4))) fun G42 =>
  lt (zA V40 (W.1 + 5)) fun V43 =>
  gd (G42.1 r0 = .inl 10 ∧ G42.1 (W.1 + 5) = .inr (1, 4)) <|
  lt (sA V43 (W.1 + 5) 0 104) fun V46 =>
  lt (sA V46 (W.1 + 5) 1 97) fun V47 =>
  lt (sA V47 (W.1 + 5) 2 114) fun V48 =>
  lt (sA V48 (W.1 + 5) 3 100) fun V49 =>
  lt (sR G42 r0 14 (.ref (W.1 + 5))) fun G50 =>
  lt (nw G50 (W.1 + 6) (.inr (1, 4))) fun G51 =>
  lt (zA V49 (W.1 + 6)) fun V52 =>
  gd (G51.1 r0 = .inl 10 ∧ G51.1 (W.1 + 6) = .inr (1, 4)) <|
  lt (sA V52 (W.1 + 6) 0 100) fun V55 =>
  lt (sA V55 (W.1 + 6) 1 111) fun V56 =>
  lt (sA V56 (W.1 + 6) 2 101) fun V57 =>
  lt (sA V57 (W.1 + 6) 3 115) fun V58 =>
  lt (sR G51 r0 15 (.ref (W.1 + 6))) fun G59 =>
  F_X10_init_J172 r0 ((W.1 + 7), (((((((W.2.1 + 1600) + 6) + 6) + 4) + 4) + 4) + 4), G59, V58)
noncomputable def F_X6_readRule_J16 (r0 : Nat) (r1 : Nat) (x2 : Int) (W : mW) : Option (mW × Int) :=
  gd (is6 W.2.2.1 r0 ∧ is1 W.2.2.1 r1) <|
  gd (rg x2) <|
  if x2 = 8 then (lt (sR W.2.2.1 r0 7 (.ref (r1 + 21))) fun G19 =>
  gd (is6 G19 r0 ∧ is1 G19 r1) <|
  lt (sJ W.2.2.2 r0 8 61440) fun V22 =>
  bd (FR G19 r0 64 3 0 0 V22) fun V23 v24 =>
  some ((W.1, W.2.1, G19, V23), 0)) else (lt (sR W.2.2.1 r0 7 (.ref (r1 + 26))) fun G12 =>
  gd (is6 G12 r0 ∧ is1 G12 r1) <|
  lt (sJ W.2.2.2 r0 8 61440) fun V15 =>
  bd (FR G12 r0 64 3 0 0 V15) fun V16 v17 =>
  some ((W.1, W.2.1, G12, V16), 0))
noncomputable def F_X6_readRule (r0 : Nat) (r1 : Nat) (x2 : Int) (W : mW) : Option (mW × Int) :=
  gd (is6 W.2.2.1 r0 ∧ is1 W.2.2.1 r1) <|
  bd (F_X6_take W.2.2.1 r0 W.2.2.2) fun V3 v4 =>
  gd (rg x2) <|
  if x2 = 8 then (F_X6_readRule_J16 r0 r1 x2 (W.1, W.2.1, W.2.2.1, V3)) else (if x2 = 9 then (F_X6_readRule_J16 r0 r1 x2 (W.1, W.2.1, W.2.2.1, V3)) else (if x2 = 10 then (lt (sR W.2.2.1 r0 7 (.ref (r1 + 31))) fun G40 =>
  gd (is6 G40 r0 ∧ is1 G40 r1) <|
  if x2 = 10 then (lt (sJ V3 r0 8 94216) fun V48 =>
  bd (FR G40 r0 64 0 0 0 V48) fun V49 v50 =>
  some ((W.1, W.2.1, G40, V49), 0)) else (lt (sJ V3 r0 8 192512) fun V44 =>
  bd (FR G40 r0 64 0 0 0 V44) fun V45 v46 =>
  some ((W.1, W.2.1, G40, V45), 0))) else (lt (sR W.2.2.1 r0 7 (.ref (r1 + 36))) fun G28 =>
  gd (is6 G28 r0 ∧ is1 G28 r1) <|
  if x2 = 10 then (lt (sJ V3 r0 8 94216) fun V36 =>
  bd (FR G28 r0 64 0 0 0 V36) fun V37 v38 =>
  some ((W.1, W.2.1, G28, V37), 0)) else (lt (sJ V3 r0 8 192512) fun V32 =>
  bd (FR G28 r0 64 0 0 0 V32) fun V33 v34 =>
  some ((W.1, W.2.1, G28, V33), 0)))))
noncomputable def F_X6_readQuestion_J134 (r0 : Nat) (W : mW) : Option (mW × Int) :=
  gd (is6 W.2.2.1 r0) <|
  bd (F_X7_get W.2.2.1 (r0 + 1) (gI W.2.2.2 r0 6) W.2.2.2) fun V32 v33 =>
  gd (rg v33) <|
  if v33 = 3 then (some ((W.1, W.2.1, W.2.2.1, V32), 0)) else (bd (F_X6_here W.2.2.1 r0 V32) fun V37 v38 =>
  bd (F_X6_fail W.2.2.1 r0 1 v38 V37) fun V40 v41 =>
  some ((W.1, W.2.1, W.2.2.1, V40), 0))
noncomputable def F_X6_readQuestion_J113 (r0 : Nat) (x1 : Int) (W : mW) : Option (mW × Int) :=
  gd (is6 W.2.2.1 r0) <|
  bd (F_X6_take W.2.2.1 r0 W.2.2.2) fun V23 v24 =>
  gd (rg x1) <|
  if x1 = 0 then (bd (FR W.2.2.1 r0 64 3 0 0 V23) fun V28 v29 =>
  F_X6_readQuestion_J134 r0 (W.1, W.2.1, W.2.2.1, V28)) else (bd (FR W.2.2.1 r0 64 0 0 0 V23) fun V43 v44 =>
  F_X6_readQuestion_J134 r0 (W.1, W.2.1, W.2.2.1, V43))
noncomputable def F_X6_readQuestion_J95 (r0 : Nat) (x1 : Int) (s0 : Int) (W : mW) : Option (mW × Int) :=
  gd (is6 W.2.2.1 r0) <|
  gd (rg x1) <|
  if x1 = 0 then (gd (rg s0) <|
  if s0 = 0 then (bd (F_X6_here W.2.2.1 r0 W.2.2.2) fun V48 v49 =>
  bd (F_X6_fail W.2.2.1 r0 1 v49 V48) fun V51 v52 =>
  F_X6_readQuestion_J113 r0 x1 (W.1, W.2.1, W.2.2.1, V51)) else (F_X6_readQuestion_J113 r0 x1 (W.1, W.2.1, W.2.2.1, W.2.2.2))) else (F_X6_readQuestion_J113 r0 x1 (W.1, W.2.1, W.2.2.1, W.2.2.2))
noncomputable def F_X6_readQuestion_J90 (r0 : Nat) (x1 : Int) (W : mW) : Option (mW × Int) :=
  gd (is6 W.2.2.1 r0) <|
  F_X6_readQuestion_J95 r0 x1 1 (W.1, W.2.1, W.2.2.1, W.2.2.2)
noncomputable def F_X6_readQuestion_J62 (r0 : Nat) (s0 : Int) (W : mW) : Option (mW × Int) :=
  gd (is6 W.2.2.1 r0) <|
  gd (rg (gI W.2.2.2 r0 10)) <|
  if (gI W.2.2.2 r0 10) = 27 then (F_X6_readQuestion_J90 r0 s0 (W.1, W.2.1, W.2.2.1, W.2.2.2)) else (if (gI W.2.2.2 r0 10) = 28 then (F_X6_readQuestion_J90 r0 s0 (W.1, W.2.1, W.2.2.1, W.2.2.2)) else (if (gI W.2.2.2 r0 10) = 29 then (F_X6_readQuestion_J90 r0 s0 (W.1, W.2.1, W.2.2.1, W.2.2.2)) else (F_X6_readQuestion_J95 r0 s0 0 (W.1, W.2.1, W.2.2.1, W.2.2.2))))
noncomputable def F_X6_readQuestion_J57 (r0 : Nat) (W : mW) : Option (mW × Int) :=
  gd (is6 W.2.2.1 r0) <|
  F_X6_readQuestion_J62 r0 1 (W.1, W.2.1, W.2.2.1, W.2.2.2)
noncomputable def F_X6_readQuestion (r0 : Nat) (W : mW) : Option (mW × Int) :=
  gd (is6 W.2.2.1 r0) <|
  bd (F_X6_word W.2.2.1 r0 W.2.2.2) fun V2 v3 =>
  lt (sI V2 r0 10 v3) fun V5 =>
  lt (sR W.2.2.1 r0 7 (.ref (r0 + 13))) fun G6 =>
  gd (is6 G6 r0) <|
  bd (F_X3_clear G6 (gR G6 r0 7) V5) fun V8 v9 =>
  lt (sJ V8 r0 8 7516205056) fun V11 =>
  gd (rg (gI V11 r0 10)) <|
  if (gI V11 r0 10) = 24 then (F_X6_readQuestion_J57 r0 (W.1, W.2.1, G6, V11)) else (if (gI V11 r0 10) = 25 then (F_X6_readQuestion_J57 r0 (W.1, W.2.1, G6, V11)) else (if (gI V11 r0 10) = 26 then (F_X6_readQuestion_J57 r0 (W.1, W.2.1, G6, V11)) else (F_X6_readQuestion_J62 r0 0 (W.1, W.2.1, G6, V11))))
noncomputable def F_X6_readCity_J154_6 (r0 : Nat) (r1 : Nat) (x2 : Int) (W : mW) : Option (mW × Nat × Int) :=
  gd (is6 W.2.2.1 r0 ∧ is1 W.2.2.1 r1) <|
  bd (F_X6_takeSign W.2.2.1 r0 59 W.2.2.2) fun V34 v35 =>
  lt (sI V34 r1 14 ((gI V34 r1 14) + 1)) fun V37 =>
  lt (x2 + 1) fun y38 =>
  some ((W.1, W.2.1, W.2.2.1, V37), 0, y38)
noncomputable def F_X6_readCity_J53_6 (r0 : Nat) (r1 : Nat) (x2 : Int) (W : mW) : Option (mW × Nat × Int) :=
  gd (is6 W.2.2.1 r0 ∧ is1 W.2.2.1 r1) <|
  bd (F_X6_here W.2.2.1 r0 W.2.2.2) fun V26 v27 =>
  bd (F_X6_fail W.2.2.1 r0 5 v27 V26) fun V29 v30 =>
  F_X6_readCity_J154_6 r0 r1 x2 (W.1, W.2.1, W.2.2.1, V29)
noncomputable def F_X6_readCity_J74_6 (r0 : Nat) (r1 : Nat) (x2 : Int) (x3 : Int) (W : mW) : Option (mW × Nat × Int) :=
  gd (is6 W.2.2.1 r0 ∧ is1 W.2.2.1 r1) <|
  bd (F_X6_readGiven W.2.2.1 r0 r1 x3 W.2.2.2) fun V48 v49 =>
  F_X6_readCity_J154_6 r0 r1 x2 (W.1, W.2.1, W.2.2.1, V48)
noncomputable def F_X6_readCity_J145_6 (r0 : Nat) (r1 : Nat) (x2 : Int) (W : mW) : Option (mW × Nat × Int) :=
  gd (is6 W.2.2.1 r0 ∧ is1 W.2.2.1 r1) <|
  bd (F_X6_here W.2.2.1 r0 W.2.2.2) fun V58 v59 =>
  bd (F_X6_fail W.2.2.1 r0 1 v59 V58) fun V61 v62 =>
  F_X6_readCity_J154_6 r0 r1 x2 (W.1, W.2.1, W.2.2.1, V61)
noncomputable def B_X6_readCity_6 (r0 : Nat) (r1 : Nat) (x2 : Int) (W : mW) : Option (mW × Nat × Int) :=
  gd (is6 W.2.2.1 r0 ∧ is1 W.2.2.1 r1) <|
  gd (rg x2) <|
  if 70 < x2 then (some ((W.1, W.2.1, W.2.2.1, W.2.2.2), 1, x2)) else (bd (F_X6_fine W.2.2.1 r0 W.2.2.2) fun V10 v11 =>
  gd (rg v11) <|
  if v11 = 0 then (some ((W.1, W.2.1, W.2.2.1, V10), 1, x2)) else (bd (F_X7_get W.2.2.1 (r0 + 1) (gI V10 r0 6) V10) fun V15 v16 =>
  gd (rg v16) <|
  if v16 = 3 then (some ((W.1, W.2.1, W.2.2.1, V15), 1, x2)) else (bd (F_X6_word W.2.2.1 r0 V15) fun V20 v21 =>
  if x2 = 70 then (F_X6_readCity_J53_6 r0 r1 x2 (W.1, W.2.1, W.2.2.1, V20)) else (bd (F_X6_isTooMany W.2.2.1 r1 v21 V20) fun V39 v40 =>
  gd (rg v40) <|
  if v40 = 0 then (gd (rg v21) <|
  if v21 = 0 then (F_X6_readCity_J74_6 r0 r1 x2 v21 (W.1, W.2.1, W.2.2.1, V39)) else (if v21 = 2 then (F_X6_readCity_J74_6 r0 r1 x2 v21 (W.1, W.2.1, W.2.2.1, V39)) else (if v21 = 4 then (bd (F_X6_readDuty W.2.2.1 r0 r1 V39) fun V76 v77 =>
  F_X6_readCity_J154_6 r0 r1 x2 (W.1, W.2.1, W.2.2.1, V76)) else (if v21 = 6 then (bd (F_X6_readCover W.2.2.1 r0 r1 V39) fun V73 v74 =>
  F_X6_readCity_J154_6 r0 r1 x2 (W.1, W.2.1, W.2.2.1, V73)) else (if v21 = 7 then (bd (F_X6_readKnowing W.2.2.1 r0 r1 V39) fun V70 v71 =>
  F_X6_readCity_J154_6 r0 r1 x2 (W.1, W.2.1, W.2.2.1, V70)) else (if v21 < 8 then (F_X6_readCity_J145_6 r0 r1 x2 (W.1, W.2.1, W.2.2.1, V39)) else (if 11 < v21 then (F_X6_readCity_J145_6 r0 r1 x2 (W.1, W.2.1, W.2.2.1, V39)) else (bd (F_X6_readRule r0 r1 v21 (W.1, W.2.1, W.2.2.1, V39)) fun W65 v66 =>
  gd (is6 W65.2.2.1 r0 ∧ is1 W65.2.2.1 r1) <|
  F_X6_readCity_J154_6 r0 r1 x2 (W65.1, W65.2.1, W65.2.2.1, W65.2.2.2))))))))) else (F_X6_readCity_J53_6 r0 r1 x2 (W.1, W.2.1, W.2.2.1, V39))))))
noncomputable def F_X6_readCity (r0 : Nat) (r1 : Nat) (W : mW) : Option (mW × Int) :=
  gd (is6 W.2.2.1 r0 ∧ is1 W.2.2.1 r1) <|
  bd (F_X1_clear W.2.2.1 r1 W.2.2.2) fun V3 v4 =>
  bd (lp (fun (s : Int) (Z : mW) => B_X6_readCity_6 r0 r1 s Z) FU 0 (W.1, W.2.1, W.2.2.1, V3)) fun W79 u80 =>
  gd (is6 W79.2.2.1 r0 ∧ is1 W79.2.2.1 r1) <|
  some ((W79.1, W79.2.1, W79.2.2.1, W79.2.2.2), 0)
noncomputable def B_X9_answer_28 (r0 : Nat) (r2 : Nat) (x1 : Int) (x3 : Int) (W : mW) : Option (mW × Nat × Int) :=
  gd (is9 W.2.2.1 r0 ∧ is8 W.2.2.1 r2) <|
  gd (rg x3) <|
  if 48 ≤ x3 then (some ((W.1, W.2.1, W.2.2.1, W.2.2.2), 2, x3)) else (gd (rg (gI W.2.2.2 (r0 + 236) 0)) <|
  if 9999 < (gI W.2.2.2 (r0 + 236) 0) then (some ((W.1, W.2.1, W.2.2.1, W.2.2.2), 2, x3)) else (bd (F_X2_setAskFacts W.2.2.1 (r0 + 27) (gR W.2.2.1 r0 10) (r0 + 236) x1 W.2.2.2) fun V22 v23 =>
  bd (F_X3_value W.2.2.1 (r0 + 22) (r0 + 28) V22) fun V25 v26 =>
  bd (F_X8_count W.2.2.1 r2 (gI V22 (r0 + 236) 0) v26 V25) fun V28 v29 =>
  gd (rg (gI V28 (r0 + 236) 0)) <|
  if (gI V28 (r0 + 236) 0) = 9999 then (some ((W.1, W.2.1, W.2.2.1, V28), 1, x3)) else (bd (F_X2_comes W.2.2.1 (r0 + 27) (gR W.2.2.1 r0 10) (r0 + 236) V28) fun V33 v34 =>
  lt (x3 + 1) fun y36 =>
  some ((W.1, W.2.1, W.2.2.1, V33), 0, y36))))
noncomputable def F_X9_answer_J128 (r0 : Nat) (r2 : Nat) (x1 : Int) (W : mW) : Option (mW × Int) :=
  gd (is9 W.2.2.1 r0 ∧ is8 W.2.2.1 r2) <|
  bd (F_X8_answer W.2.2.1 r2 (gI W.2.2.2 (r0 + 9) 10) W.2.2.2) fun V45 v46 =>
  some ((W.1, W.2.1, W.2.2.1, V45), v46)
noncomputable def F_X9_answer (r0 : Nat) (x1 : Int) (W : mW) : Option (mW × Int) :=
  gd (is9 W.2.2.1 r0) <|
  lt (zR (nw W.2.2.1 W.1 (.inl 8)) W.1) fun G2 =>
  lt (z0 W.2.2.2 W.1) fun V3 =>
  gd (is9 G2 r0 ∧ G2.1 W.1 = .inl 8) <|
  gd (is8 G2 W.1) <|
  bd (F_X8_init G2 W.1 V3) fun V6 v7 =>
  bd (F_X4_copy G2 (r0 + 236) (r0 + 227) V6) fun V10 v11 =>
  bd (F_X2_forgetFailures G2 (r0 + 27) V10) fun V13 v14 =>
  bd (lp (fun (s : Int) (Z : mW) => B_X9_answer_28 r0 W.1 x1 s Z) FU 0 ((W.1 + 1), (W.2.1 + a_nf 8), G2, V13)) fun W37 u38 =>
  if u38.1 = 1 then (gd (is9 W37.2.2.1 r0 ∧ is8 W37.2.2.1 W.1) <|
  F_X9_answer_J128 r0 W.1 x1 (W37.1, W37.2.1, W37.2.2.1, W37.2.2.2)) else (gd (is9 W37.2.2.1 r0 ∧ is8 W37.2.2.1 W.1) <|
  F_X9_answer_J128 r0 W.1 x1 (W37.1, W37.2.1, W37.2.2.1, W37.2.2.2))
noncomputable def F_X9_ask_J21 (r0 : Nat) (x1 : Int) (x2 : Int) (W : mW) : Option (mW × Int) :=
  gd (is9 W.2.2.1 r0) <|
  bd (F_X7_cut W.2.2.1 (r0 + 1) 0 W.2.2.2) fun V8 v9 =>
  gd (rg x2) <|
  if x2 = 0 then (some ((W.1, W.2.1, W.2.2.1, V8), (-1000000000000000))) else (bd (F_X6_readQuestion (r0 + 9) (W.1, W.2.1, W.2.2.1, V8)) fun W13 v14 =>
  gd (is9 W13.2.2.1 r0) <|
  gd (rg (gI W13.2.2.2 (r0 + 9) 11)) <|
  if (gI W13.2.2.2 (r0 + 9) 11) = 0 then (bd (F_X9_answer r0 x1 (W13.1, W13.2.1, W13.2.2.1, W13.2.2.2)) fun W19 v20 =>
  gd (is9 W19.2.2.1 r0) <|
  some ((W19.1, W19.2.1, W19.2.2.1, W19.2.2.2), v20)) else (some ((W13.1, W13.2.1, W13.2.2.1, W13.2.2.2), (-1000000000000000))))
noncomputable def F_X9_ask (r0 : Nat) (x1 : Int) (W : mW) : Option (mW × Int) :=
  gd (is9 W.2.2.1 r0) <|
  bd (F_X9_isPerson W.2.2.1 r0 x1 W.2.2.2) fun V2 v3 =>
  gd (rg v3) <|
  if v3 = 0 then (F_X9_ask_J21 r0 x1 v3 (W.1, W.2.1, W.2.2.1, V2)) else (bd (F_X6_start W.2.2.1 (r0 + 9) (r0 + 1) V2) fun V23 v24 =>
  F_X9_ask_J21 r0 x1 v3 (W.1, W.2.1, W.2.2.1, V23))
noncomputable def F_X9_city (r0 : Nat) (W : mW) : Option (mW × Int) :=
  gd (is9 W.2.2.1 r0) <|
  bd (F_X6_start W.2.2.1 (r0 + 9) (r0 + 1) W.2.2.2) fun V2 v3 =>
  bd (F_X7_cut W.2.2.1 (r0 + 1) 0 V2) fun V5 v6 =>
  bd (F_X6_readCity (r0 + 9) (gR W.2.2.1 r0 11) (W.1, W.2.1, W.2.2.1, V5)) fun W8 v9 =>
  gd (is9 W8.2.2.1 r0) <|
  gd (rg (gI W8.2.2.2 (r0 + 9) 11)) <|
  if (gI W8.2.2.2 (r0 + 9) 11) = 0 then (lt (sR W8.2.2.1 r0 11 (.ref (gR W8.2.2.1 r0 10))) fun G14 =>
  gd (is9 G14 r0 ∧ is1 G14 (gR W8.2.2.1 r0 11)) <|
  lt (sR G14 r0 10 (.ref (gR W8.2.2.1 r0 11))) fun G17 =>
  gd (is9 G17 r0 ∧ is1 G17 (gR W8.2.2.1 r0 11)) <|
  bd (F_X4_begin G17 (r0 + 227) (gR G17 r0 10) W8.2.2.2) fun V20 v21 =>
  bd (F_X5_clear G17 (r0 + 45) V20) fun V23 v24 =>
  bd (F_X7_cut G17 (r0 + 7) 0 V23) fun V26 v27 =>
  lt (sI V26 r0 12 (-1)) fun V29 =>
  some ((W8.1, W8.2.1, G17, V29), gI V29 (gR G17 r0 10) 14)) else (bd (F_X9_refuse W8.2.2.1 r0 1 W8.2.2.2) fun V30 v31 =>
  some ((W8.1, W8.2.1, W8.2.2.1, V30), v31))
noncomputable def B_L_law_18 (L0 : Nat) (xs : Nat → Int32) (r1 : Nat) (r2 : Nat) (x3 : Int) (W : mW) : Option (mW × Nat × Int) :=
  gd (is9 W.2.2.1 r1 ∧ is10 W.2.2.1 r2) <|
  gd (rg x3) <|
  gd (rg ((L0 : Int) - 6)) <|
  if ((L0 : Int) - 6) < x3 then (some ((W.1, W.2.1, W.2.2.1, W.2.2.2), 33, x3)) else (gd (0 ≤ x3 ∧ x3 < (L0 : Int) ∧ x3 ≤ 2147483647) <|
  gd (rg (((xs x3.toNat).toInt) % 32)) <|
  if (((xs x3.toNat).toInt) % 32) = 0 then (gd (0 ≤ (x3 + 1) ∧ (x3 + 1) < (L0 : Int) ∧ (x3 + 1) ≤ 2147483647) <|
  gd (0 ≤ (x3 + 2) ∧ (x3 + 2) < (L0 : Int) ∧ (x3 + 2) ≤ 2147483647) <|
  gd (0 ≤ (x3 + 3) ∧ (x3 + 3) < (L0 : Int) ∧ (x3 + 3) ≤ 2147483647) <|
  gd (0 ≤ (x3 + 4) ∧ (x3 + 4) < (L0 : Int) ∧ (x3 + 4) ≤ 2147483647) <|
  gd (0 ≤ (x3 + 5) ∧ (x3 + 5) < (L0 : Int) ∧ (x3 + 5) ≤ 2147483647) <|
  bd (F_X9_feed W.2.2.1 r1 ((xs (x3 + 1).toNat).toInt) ((xs (x3 + 2).toNat).toInt) ((xs (x3 + 3).toNat).toInt) ((xs (x3 + 4).toNat).toInt) ((xs (x3 + 5).toNat).toInt) W.2.2.2) fun V30 v31 =>
  bd (F_X10_feed W.2.2.1 r2 ((xs (x3 + 1).toNat).toInt) ((xs (x3 + 2).toNat).toInt) ((xs (x3 + 3).toNat).toInt) ((xs (x3 + 4).toNat).toInt) ((xs (x3 + 5).toNat).toInt) V30) fun V33 v34 =>
  gd (rg v31) <|
  gd (rg v34) <|
  if v31 = v34 then (lt (x3 + 6) fun y39 =>
  some ((W.1, W.2.1, W.2.2.1, V33), 0, y39)) else (some ((W.1, W.2.1, W.2.2.1, V33), 1, x3))) else if (((xs x3.toNat).toInt) % 32) = 1 then (gd (0 ≤ (x3 + 1) ∧ (x3 + 1) < (L0 : Int) ∧ (x3 + 1) ≤ 2147483647) <|
  bd (F_X9_end W.2.2.1 r1 ((xs (x3 + 1).toNat).toInt) W.2.2.2) fun V42 v43 =>
  bd (F_X10_end W.2.2.1 r2 ((xs (x3 + 1).toNat).toInt) V42) fun V45 v46 =>
  gd (rg v43) <|
  gd (rg v46) <|
  if v43 = v46 then (lt (x3 + 6) fun y51 =>
  some ((W.1, W.2.1, W.2.2.1, V45), 0, y51)) else (some ((W.1, W.2.1, W.2.2.1, V45), 2, x3))) else if (((xs x3.toNat).toInt) % 32) = 2 then (bd (F_X9_city r1 (W.1, W.2.1, W.2.2.1, W.2.2.2)) fun W53 v54 =>
  gd (is9 W53.2.2.1 r1 ∧ is10 W53.2.2.1 r2) <|
  bd (F_X10_city W53.2.2.1 r2 W53.2.2.2) fun V58 v59 =>
  gd (rg v54) <|
  gd (rg v59) <|
  if v54 = v59 then (lt (x3 + 6) fun y64 =>
  some ((W53.1, W53.2.1, W53.2.2.1, V58), 0, y64)) else (some ((W53.1, W53.2.1, W53.2.2.1, V58), 3, x3))) else if (((xs x3.toNat).toInt) % 32) = 3 then (gd (0 ≤ (x3 + 1) ∧ (x3 + 1) < (L0 : Int) ∧ (x3 + 1) ≤ 2147483647) <|
  bd (F_X9_fault W.2.2.1 r1 ((xs (x3 + 1).toNat).toInt) W.2.2.2) fun V67 v68 =>
  bd (F_X10_fault W.2.2.1 r2 ((xs (x3 + 1).toNat).toInt) V67) fun V70 v71 =>
  gd (rg v68) <|
  gd (rg v71) <|
  if v68 = v71 then (lt (x3 + 6) fun y76 =>
  some ((W.1, W.2.1, W.2.2.1, V70), 0, y76)) else (some ((W.1, W.2.1, W.2.2.1, V70), 4, x3))) else if (((xs x3.toNat).toInt) % 32) = 4 then (gd (0 ≤ (x3 + 1) ∧ (x3 + 1) < (L0 : Int) ∧ (x3 + 1) ≤ 2147483647) <|
  bd (F_X9_has W.2.2.1 r1 ((xs (x3 + 1).toNat).toInt) W.2.2.2) fun V79 v80 =>
  bd (F_X10_has W.2.2.1 r2 ((xs (x3 + 1).toNat).toInt) V79) fun V82 v83 =>
  gd (rg v80) <|
  gd (rg v83) <|
  if v80 = v83 then (lt (x3 + 6) fun y88 =>
  some ((W.1, W.2.1, W.2.2.1, V82), 0, y88)) else (some ((W.1, W.2.1, W.2.2.1, V82), 5, x3))) else if (((xs x3.toNat).toInt) % 32) = 5 then (gd (0 ≤ (x3 + 1) ∧ (x3 + 1) < (L0 : Int) ∧ (x3 + 1) ≤ 2147483647) <|
  gd (0 ≤ (x3 + 2) ∧ (x3 + 2) < (L0 : Int) ∧ (x3 + 2) ≤ 2147483647) <|
  gd (0 ≤ (x3 + 3) ∧ (x3 + 3) < (L0 : Int) ∧ (x3 + 3) ≤ 2147483647) <|
  bd (F_X9_letter W.2.2.1 r1 ((xs (x3 + 1).toNat).toInt) ((xs (x3 + 2).toNat).toInt) ((xs (x3 + 3).toNat).toInt) W.2.2.2) fun V93 v94 =>
  bd (F_X10_letter W.2.2.1 r2 ((xs (x3 + 1).toNat).toInt) ((xs (x3 + 2).toNat).toInt) ((xs (x3 + 3).toNat).toInt) V93) fun V96 v97 =>
  gd (rg v94) <|
  gd (rg v97) <|
  if v94 = v97 then (lt (x3 + 6) fun y102 =>
  some ((W.1, W.2.1, W.2.2.1, V96), 0, y102)) else (some ((W.1, W.2.1, W.2.2.1, V96), 6, x3))) else if (((xs x3.toNat).toInt) % 32) = 6 then (gd (0 ≤ (x3 + 1) ∧ (x3 + 1) < (L0 : Int) ∧ (x3 + 1) ≤ 2147483647) <|
  gd (0 ≤ (x3 + 2) ∧ (x3 + 2) < (L0 : Int) ∧ (x3 + 2) ≤ 2147483647) <|
  bd (F_X9_person W.2.2.1 r1 ((xs (x3 + 1).toNat).toInt) ((xs (x3 + 2).toNat).toInt) W.2.2.2) fun V106 v107 =>
  bd (F_X10_person W.2.2.1 r2 ((xs (x3 + 1).toNat).toInt) ((xs (x3 + 2).toNat).toInt) V106) fun V109 v110 =>
  gd (rg v107) <|
  gd (rg v110) <|
  if v107 = v110 then (lt (x3 + 6) fun y115 =>
  some ((W.1, W.2.1, W.2.2.1, V109), 0, y115)) else (some ((W.1, W.2.1, W.2.2.1, V109), 7, x3))) else if (((xs x3.toNat).toInt) % 32) = 7 then (gd (0 ≤ (x3 + 1) ∧ (x3 + 1) < (L0 : Int) ∧ (x3 + 1) ≤ 2147483647) <|
  gd (0 ≤ (x3 + 2) ∧ (x3 + 2) < (L0 : Int) ∧ (x3 + 2) ≤ 2147483647) <|
  bd (F_X9_points W.2.2.1 r1 ((xs (x3 + 1).toNat).toInt) ((xs (x3 + 2).toNat).toInt) W.2.2.2) fun V119 v120 =>
  bd (F_X10_points W.2.2.1 r2 ((xs (x3 + 1).toNat).toInt) ((xs (x3 + 2).toNat).toInt) V119) fun V122 v123 =>
  gd (rg v120) <|
  gd (rg v123) <|
  if v120 = v123 then (lt (x3 + 6) fun y128 =>
  some ((W.1, W.2.1, W.2.2.1, V122), 0, y128)) else (some ((W.1, W.2.1, W.2.2.1, V122), 8, x3))) else if (((xs x3.toNat).toInt) % 32) = 8 then (gd (0 ≤ (x3 + 1) ∧ (x3 + 1) < (L0 : Int) ∧ (x3 + 1) ≤ 2147483647) <|
  gd (0 ≤ (x3 + 2) ∧ (x3 + 2) < (L0 : Int) ∧ (x3 + 2) ≤ 2147483647) <|
  gd (0 ≤ (x3 + 3) ∧ (x3 + 3) < (L0 : Int) ∧ (x3 + 3) ≤ 2147483647) <|
  gd (0 ≤ (x3 + 4) ∧ (x3 + 4) < (L0 : Int) ∧ (x3 + 4) ≤ 2147483647) <|
  bd (F_X9_could W.2.2.1 r1 ((xs (x3 + 1).toNat).toInt) ((xs (x3 + 2).toNat).toInt) ((xs (x3 + 3).toNat).toInt) ((xs (x3 + 4).toNat).toInt) W.2.2.2) fun V134 v135 =>
  bd (F_X10_could W.2.2.1 r2 ((xs (x3 + 1).toNat).toInt) ((xs (x3 + 2).toNat).toInt) ((xs (x3 + 3).toNat).toInt) ((xs (x3 + 4).toNat).toInt) V134) fun V137 v138 =>
  gd (rg v135) <|
  gd (rg v138) <|
  if v135 = v138 then (lt (x3 + 6) fun y143 =>
  some ((W.1, W.2.1, W.2.2.1, V137), 0, y143)) else (some ((W.1, W.2.1, W.2.2.1, V137), 9, x3))) else if (((xs x3.toNat).toInt) % 32) = 9 then (gd (0 ≤ (x3 + 1) ∧ (x3 + 1) < (L0 : Int) ∧ (x3 + 1) ≤ 2147483647) <|
  gd (0 ≤ (x3 + 2) ∧ (x3 + 2) < (L0 : Int) ∧ (x3 + 2) ≤ 2147483647) <|
  bd (F_X9_kept W.2.2.1 r1 ((xs (x3 + 1).toNat).toInt) ((xs (x3 + 2).toNat).toInt) W.2.2.2) fun V147 v148 =>
  bd (F_X10_kept W.2.2.1 r2 ((xs (x3 + 1).toNat).toInt) ((xs (x3 + 2).toNat).toInt) V147) fun V150 v151 =>
  gd (rg v148) <|
  gd (rg v151) <|
  if v148 = v151 then (lt (x3 + 6) fun y156 =>
  some ((W.1, W.2.1, W.2.2.1, V150), 0, y156)) else (some ((W.1, W.2.1, W.2.2.1, V150), 10, x3))) else if (((xs x3.toNat).toInt) % 32) = 10 then (gd (0 ≤ (x3 + 1) ∧ (x3 + 1) < (L0 : Int) ∧ (x3 + 1) ≤ 2147483647) <|
  gd (0 ≤ (x3 + 2) ∧ (x3 + 2) < (L0 : Int) ∧ (x3 + 2) ≤ 2147483647) <|
  bd (F_X9_wave W.2.2.1 r1 ((xs (x3 + 1).toNat).toInt) ((xs (x3 + 2).toNat).toInt) W.2.2.2) fun V160 v161 =>
  bd (F_X10_wave W.2.2.1 r2 ((xs (x3 + 1).toNat).toInt) ((xs (x3 + 2).toNat).toInt) V160) fun V163 v164 =>
  gd (rg v161) <|
  gd (rg v164) <|
  if v161 = v164 then (lt (x3 + 6) fun y169 =>
  some ((W.1, W.2.1, W.2.2.1, V163), 0, y169)) else (some ((W.1, W.2.1, W.2.2.1, V163), 11, x3))) else if (((xs x3.toNat).toInt) % 32) = 11 then (gd (0 ≤ (x3 + 1) ∧ (x3 + 1) < (L0 : Int) ∧ (x3 + 1) ≤ 2147483647) <|
  gd (0 ≤ (x3 + 2) ∧ (x3 + 2) < (L0 : Int) ∧ (x3 + 2) ≤ 2147483647) <|
  bd (F_X9_would W.2.2.1 r1 ((xs (x3 + 1).toNat).toInt) ((xs (x3 + 2).toNat).toInt) W.2.2.2) fun V173 v174 =>
  bd (F_X10_would W.2.2.1 r2 ((xs (x3 + 1).toNat).toInt) ((xs (x3 + 2).toNat).toInt) V173) fun V176 v177 =>
  gd (rg v174) <|
  gd (rg v177) <|
  if v174 = v177 then (lt (x3 + 6) fun y182 =>
  some ((W.1, W.2.1, W.2.2.1, V176), 0, y182)) else (some ((W.1, W.2.1, W.2.2.1, V176), 12, x3))) else if (((xs x3.toNat).toInt) % 32) = 12 then (gd (0 ≤ (x3 + 1) ∧ (x3 + 1) < (L0 : Int) ∧ (x3 + 1) ≤ 2147483647) <|
  bd (F_X9_first W.2.2.1 r1 ((xs (x3 + 1).toNat).toInt) W.2.2.2) fun V185 v186 =>
  bd (F_X10_first W.2.2.1 r2 ((xs (x3 + 1).toNat).toInt) V185) fun V188 v189 =>
  gd (rg v186) <|
  gd (rg v189) <|
  if v186 = v189 then (lt (x3 + 6) fun y194 =>
  some ((W.1, W.2.1, W.2.2.1, V188), 0, y194)) else (some ((W.1, W.2.1, W.2.2.1, V188), 13, x3))) else if (((xs x3.toNat).toInt) % 32) = 13 then (gd (0 ≤ (x3 + 1) ∧ (x3 + 1) < (L0 : Int) ∧ (x3 + 1) ≤ 2147483647) <|
  gd (0 ≤ (x3 + 2) ∧ (x3 + 2) < (L0 : Int) ∧ (x3 + 2) ≤ 2147483647) <|
  bd (F_X9_best W.2.2.1 r1 ((xs (x3 + 1).toNat).toInt) ((xs (x3 + 2).toNat).toInt) W.2.2.2) fun V198 v199 =>
  bd (F_X10_best W.2.2.1 r2 ((xs (x3 + 1).toNat).toInt) ((xs (x3 + 2).toNat).toInt) V198) fun V201 v202 =>
  gd (rg v199) <|
  gd (rg v202) <|
  if v199 = v202 then (lt (x3 + 6) fun y207 =>
  some ((W.1, W.2.1, W.2.2.1, V201), 0, y207)) else (some ((W.1, W.2.1, W.2.2.1, V201), 14, x3))) else if (((xs x3.toNat).toInt) % 32) = 14 then (gd (0 ≤ (x3 + 1) ∧ (x3 + 1) < (L0 : Int) ∧ (x3 + 1) ≤ 2147483647) <|
  gd (0 ≤ (x3 + 2) ∧ (x3 + 2) < (L0 : Int) ∧ (x3 + 2) ≤ 2147483647) <|
  bd (F_X9_study W.2.2.1 r1 ((xs (x3 + 1).toNat).toInt) ((xs (x3 + 2).toNat).toInt) W.2.2.2) fun V211 v212 =>
  bd (F_X10_study W.2.2.1 r2 ((xs (x3 + 1).toNat).toInt) ((xs (x3 + 2).toNat).toInt) V211) fun V214 v215 =>
  gd (rg v212) <|
  gd (rg v215) <|
  if v212 = v215 then (lt (x3 + 6) fun y220 =>
  some ((W.1, W.2.1, W.2.2.1, V214), 0, y220)) else (some ((W.1, W.2.1, W.2.2.1, V214), 15, x3))) else if (((xs x3.toNat).toInt) % 32) = 15 then (gd (0 ≤ (x3 + 1) ∧ (x3 + 1) < (L0 : Int) ∧ (x3 + 1) ≤ 2147483647) <|
  bd (F_X9_change W.2.2.1 r1 ((xs (x3 + 1).toNat).toInt) W.2.2.2) fun V223 v224 =>
  bd (F_X10_change W.2.2.1 r2 ((xs (x3 + 1).toNat).toInt) V223) fun V226 v227 =>
  gd (rg v224) <|
  gd (rg v227) <|
  if v224 = v227 then (lt (x3 + 6) fun y232 =>
  some ((W.1, W.2.1, W.2.2.1, V226), 0, y232)) else (some ((W.1, W.2.1, W.2.2.1, V226), 16, x3))) else if (((xs x3.toNat).toInt) % 32) = 16 then (gd (0 ≤ (x3 + 1) ∧ (x3 + 1) < (L0 : Int) ∧ (x3 + 1) ≤ 2147483647) <|
  bd (F_X9_ring W.2.2.1 r1 ((xs (x3 + 1).toNat).toInt) W.2.2.2) fun V235 v236 =>
  bd (F_X10_ring W.2.2.1 r2 ((xs (x3 + 1).toNat).toInt) V235) fun V238 v239 =>
  gd (rg v236) <|
  gd (rg v239) <|
  if v236 = v239 then (lt (x3 + 6) fun y244 =>
  some ((W.1, W.2.1, W.2.2.1, V238), 0, y244)) else (some ((W.1, W.2.1, W.2.2.1, V238), 17, x3))) else if (((xs x3.toNat).toInt) % 32) = 17 then (gd (0 ≤ (x3 + 1) ∧ (x3 + 1) < (L0 : Int) ∧ (x3 + 1) ≤ 2147483647) <|
  gd (0 ≤ (x3 + 2) ∧ (x3 + 2) < (L0 : Int) ∧ (x3 + 2) ≤ 2147483647) <|
  gd (0 ≤ (x3 + 3) ∧ (x3 + 3) < (L0 : Int) ∧ (x3 + 3) ≤ 2147483647) <|
  bd (F_X9_odds W.2.2.1 r1 ((xs (x3 + 1).toNat).toInt) ((xs (x3 + 2).toNat).toInt) ((xs (x3 + 3).toNat).toInt) W.2.2.2) fun V249 v250 =>
  bd (F_X10_odds W.2.2.1 r2 ((xs (x3 + 1).toNat).toInt) ((xs (x3 + 2).toNat).toInt) ((xs (x3 + 3).toNat).toInt) V249) fun V252 v253 =>
  gd (rg v250) <|
  gd (rg v253) <|
  if v250 = v253 then (lt (x3 + 6) fun y258 =>
  some ((W.1, W.2.1, W.2.2.1, V252), 0, y258)) else (some ((W.1, W.2.1, W.2.2.1, V252), 18, x3))) else if (((xs x3.toNat).toInt) % 32) = 18 then (gd (0 ≤ (x3 + 1) ∧ (x3 + 1) < (L0 : Int) ∧ (x3 + 1) ≤ 2147483647) <|
  bd (F_X9_go W.2.2.1 r1 ((xs (x3 + 1).toNat).toInt) W.2.2.2) fun V261 v262 =>
  bd (F_X10_go W.2.2.1 r2 ((xs (x3 + 1).toNat).toInt) V261) fun V264 v265 =>
  gd (rg v262) <|
  gd (rg v265) <|
  if v262 = v265 then (lt (x3 + 6) fun y270 =>
  some ((W.1, W.2.1, W.2.2.1, V264), 0, y270)) else (some ((W.1, W.2.1, W.2.2.1, V264), 19, x3))) else if (((xs x3.toNat).toInt) % 32) = 19 then (gd (0 ≤ (x3 + 1) ∧ (x3 + 1) < (L0 : Int) ∧ (x3 + 1) ≤ 2147483647) <|
  bd (F_X9_call W.2.2.1 r1 ((xs (x3 + 1).toNat).toInt) W.2.2.2) fun V273 v274 =>
  bd (F_X10_call W.2.2.1 r2 ((xs (x3 + 1).toNat).toInt) V273) fun V276 v277 =>
  gd (rg v274) <|
  gd (rg v277) <|
  if v274 = v277 then (lt (x3 + 6) fun y282 =>
  some ((W.1, W.2.1, W.2.2.1, V276), 0, y282)) else (some ((W.1, W.2.1, W.2.2.1, V276), 20, x3))) else if (((xs x3.toNat).toInt) % 32) = 20 then (gd (0 ≤ (x3 + 1) ∧ (x3 + 1) < (L0 : Int) ∧ (x3 + 1) ≤ 2147483647) <|
  gd (0 ≤ (x3 + 2) ∧ (x3 + 2) < (L0 : Int) ∧ (x3 + 2) ≤ 2147483647) <|
  bd (F_X9_watch W.2.2.1 r1 ((xs (x3 + 1).toNat).toInt) ((xs (x3 + 2).toNat).toInt) W.2.2.2) fun V286 v287 =>
  bd (F_X10_watch W.2.2.1 r2 ((xs (x3 + 1).toNat).toInt) ((xs (x3 + 2).toNat).toInt) V286) fun V289 v290 =>
  gd (rg v287) <|
  gd (rg v290) <|
  if v287 = v290 then (lt (x3 + 6) fun y295 =>
  some ((W.1, W.2.1, W.2.2.1, V289), 0, y295)) else (some ((W.1, W.2.1, W.2.2.1, V289), 21, x3))) else if (((xs x3.toNat).toInt) % 32) = 21 then (gd (0 ≤ (x3 + 1) ∧ (x3 + 1) < (L0 : Int) ∧ (x3 + 1) ≤ 2147483647) <|
  gd (0 ≤ (x3 + 2) ∧ (x3 + 2) < (L0 : Int) ∧ (x3 + 2) ≤ 2147483647) <|
  gd (0 ≤ (x3 + 3) ∧ (x3 + 3) < (L0 : Int) ∧ (x3 + 3) ≤ 2147483647) <|
  bd (F_X9_teach W.2.2.1 r1 ((xs (x3 + 1).toNat).toInt) ((xs (x3 + 2).toNat).toInt) ((xs (x3 + 3).toNat).toInt) W.2.2.2) fun V300 v301 =>
  bd (F_X10_teach W.2.2.1 r2 ((xs (x3 + 1).toNat).toInt) ((xs (x3 + 2).toNat).toInt) ((xs (x3 + 3).toNat).toInt) V300) fun V303 v304 =>
  gd (rg v301) <|
  gd (rg v304) <|
  if v301 = v304 then (lt (x3 + 6) fun y309 =>
  some ((W.1, W.2.1, W.2.2.1, V303), 0, y309)) else (some ((W.1, W.2.1, W.2.2.1, V303), 22, x3))) else if (((xs x3.toNat).toInt) % 32) = 22 then (gd (0 ≤ (x3 + 1) ∧ (x3 + 1) < (L0 : Int) ∧ (x3 + 1) ≤ 2147483647) <|
  bd (F_X9_bells W.2.2.1 r1 ((xs (x3 + 1).toNat).toInt) W.2.2.2) fun V312 v313 =>
  bd (F_X10_bells W.2.2.1 r2 ((xs (x3 + 1).toNat).toInt) V312) fun V315 v316 =>
  gd (rg v313) <|
  gd (rg v316) <|
  if v313 = v316 then (lt (x3 + 6) fun y321 =>
  some ((W.1, W.2.1, W.2.2.1, V315), 0, y321)) else (some ((W.1, W.2.1, W.2.2.1, V315), 23, x3))) else if (((xs x3.toNat).toInt) % 32) = 23 then (bd (F_X9_undo W.2.2.1 r1 W.2.2.2) fun V323 v324 =>
  bd (F_X10_undo W.2.2.1 r2 V323) fun V326 v327 =>
  gd (rg v324) <|
  gd (rg v327) <|
  if v324 = v327 then (lt (x3 + 6) fun y332 =>
  some ((W.1, W.2.1, W.2.2.1, V326), 0, y332)) else (some ((W.1, W.2.1, W.2.2.1, V326), 24, x3))) else if (((xs x3.toNat).toInt) % 32) = 24 then (gd (0 ≤ (x3 + 1) ∧ (x3 + 1) < (L0 : Int) ∧ (x3 + 1) ≤ 2147483647) <|
  bd (F_X9_seed W.2.2.1 r1 ((xs (x3 + 1).toNat).toInt) W.2.2.2) fun V335 v336 =>
  bd (F_X10_seed W.2.2.1 r2 ((xs (x3 + 1).toNat).toInt) V335) fun V338 v339 =>
  gd (rg v336) <|
  gd (rg v339) <|
  if v336 = v339 then (lt (x3 + 6) fun y344 =>
  some ((W.1, W.2.1, W.2.2.1, V338), 0, y344)) else (some ((W.1, W.2.1, W.2.2.1, V338), 25, x3))) else if (((xs x3.toNat).toInt) % 32) = 25 then (gd (0 ≤ (x3 + 1) ∧ (x3 + 1) < (L0 : Int) ∧ (x3 + 1) ≤ 2147483647) <|
  bd (F_X9_slips W.2.2.1 r1 ((xs (x3 + 1).toNat).toInt) W.2.2.2) fun V347 v348 =>
  bd (F_X10_slips W.2.2.1 r2 ((xs (x3 + 1).toNat).toInt) V347) fun V350 v351 =>
  gd (rg v348) <|
  gd (rg v351) <|
  if v348 = v351 then (lt (x3 + 6) fun y356 =>
  some ((W.1, W.2.1, W.2.2.1, V350), 0, y356)) else (some ((W.1, W.2.1, W.2.2.1, V350), 26, x3))) else if (((xs x3.toNat).toInt) % 32) = 26 then (bd (F_X9_who W.2.2.1 r1 W.2.2.2) fun V358 v359 =>
  bd (F_X10_who W.2.2.1 r2 V358) fun V361 v362 =>
  gd (rg v359) <|
  gd (rg v362) <|
  if v359 = v362 then (lt (x3 + 6) fun y367 =>
  some ((W.1, W.2.1, W.2.2.1, V361), 0, y367)) else (some ((W.1, W.2.1, W.2.2.1, V361), 27, x3))) else if (((xs x3.toNat).toInt) % 32) = 27 then (gd (0 ≤ (x3 + 1) ∧ (x3 + 1) < (L0 : Int) ∧ (x3 + 1) ≤ 2147483647) <|
  bd (F_X9_ask r1 ((xs (x3 + 1).toNat).toInt) (W.1, W.2.1, W.2.2.1, W.2.2.2)) fun W370 v371 =>
  gd (is9 W370.2.2.1 r1 ∧ is10 W370.2.2.1 r2) <|
  bd (F_X10_ask W370.2.2.1 r2 ((xs (x3 + 1).toNat).toInt) W370.2.2.2) fun V375 v376 =>
  gd (rl v371) <|
  gd (rl v376) <|
  if v371 = v376 then (lt (x3 + 6) fun y381 =>
  some ((W370.1, W370.2.1, W370.2.2.1, V375), 0, y381)) else (some ((W370.1, W370.2.1, W370.2.2.1, V375), 28, x3))) else if (((xs x3.toNat).toInt) % 32) = 28 then (bd (F_X9_image W.2.2.1 r1 W.2.2.2) fun V383 v384 =>
  bd (F_X10_image W.2.2.1 r2 V383) fun V386 v387 =>
  gd (rg v384) <|
  gd (rg v387) <|
  if v384 = v387 then (lt (x3 + 6) fun y392 =>
  some ((W.1, W.2.1, W.2.2.1, V386), 0, y392)) else (some ((W.1, W.2.1, W.2.2.1, V386), 29, x3))) else if (((xs x3.toNat).toInt) % 32) = 29 then (gd (0 ≤ (x3 + 1) ∧ (x3 + 1) < (L0 : Int) ∧ (x3 + 1) ≤ 2147483647) <|
  bd (F_X9_octet W.2.2.1 r1 ((xs (x3 + 1).toNat).toInt) W.2.2.2) fun V395 v396 =>
  bd (F_X10_octet W.2.2.1 r2 ((xs (x3 + 1).toNat).toInt) V395) fun V398 v399 =>
  gd (rg v396) <|
  gd (rg v399) <|
  if v396 = v399 then (lt (x3 + 6) fun y404 =>
  some ((W.1, W.2.1, W.2.2.1, V398), 0, y404)) else (some ((W.1, W.2.1, W.2.2.1, V398), 30, x3))) else if (((xs x3.toNat).toInt) % 32) = 30 then (bd (F_X9_on W.2.2.1 r1 W.2.2.2) fun V406 v407 =>
  bd (F_X10_on W.2.2.1 r2 V406) fun V409 v410 =>
  gd (rg v407) <|
  gd (rg v410) <|
  if v407 = v410 then (lt (x3 + 6) fun y415 =>
  some ((W.1, W.2.1, W.2.2.1, V409), 0, y415)) else (some ((W.1, W.2.1, W.2.2.1, V409), 31, x3))) else if (((xs x3.toNat).toInt) % 32) = 31 then (gd (0 ≤ (x3 + 1) ∧ (x3 + 1) < (L0 : Int) ∧ (x3 + 1) ≤ 2147483647) <|
  bd (F_X9_status W.2.2.1 r1 ((xs (x3 + 1).toNat).toInt) W.2.2.2) fun V418 v419 =>
  bd (F_X10_status W.2.2.1 r2 ((xs (x3 + 1).toNat).toInt) V418) fun V421 v422 =>
  gd (rg v419) <|
  gd (rg v422) <|
  if v419 = v422 then (lt (x3 + 6) fun y427 =>
  some ((W.1, W.2.1, W.2.2.1, V421), 0, y427)) else (some ((W.1, W.2.1, W.2.2.1, V421), 32, x3))) else (lt (x3 + 6) fun y428 =>
  some ((W.1, W.2.1, W.2.2.1, W.2.2.2), 0, y428)))
noncomputable def F_L_law (L0 : Nat) (xs : Nat → Int32) (W : mW) : Option (mW × Int) :=
  lt (zR (nw W.2.2.1 W.1 (.inl 9)) W.1) fun G1 =>
  lt (z0 W.2.2.2 W.1) fun V2 =>
  gd (G1.1 W.1 = .inl 9) <|
  bd (F_X9_init W.1 ((W.1 + 1), (W.2.1 + a_nf 9), G1, V2)) fun W4 v5 =>
  gd (is9 W4.2.2.1 W.1) <|
  lt (zR (nw W4.2.2.1 W4.1 (.inl 10)) W4.1) fun G8 =>
  lt (z0 W4.2.2.2 W4.1) fun V9 =>
  gd (is9 G8 W.1 ∧ G8.1 W4.1 = .inl 10) <|
  bd (F_X10_init W4.1 ((W4.1 + 1), (W4.2.1 + a_nf 10), G8, V9)) fun W12 v13 =>
  gd (is9 W12.2.2.1 W.1 ∧ is10 W12.2.2.1 W4.1) <|
  bd (lp (fun (s : Int) (Z : mW) => B_L_law_18 L0 xs W.1 W4.1 s Z) FU 0 (W12.1, W12.2.1, W12.2.2.1, W12.2.2.2)) fun W429 u430 =>
  if u430.1 = 1 then (some ((W429.1, W429.2.1, W429.2.2.1, W429.2.2.2), 0)) else if u430.1 = 2 then (some ((W429.1, W429.2.1, W429.2.2.1, W429.2.2.2), 0)) else if u430.1 = 3 then (some ((W429.1, W429.2.1, W429.2.2.1, W429.2.2.2), 0)) else if u430.1 = 4 then (some ((W429.1, W429.2.1, W429.2.2.1, W429.2.2.2), 0)) else if u430.1 = 5 then (some ((W429.1, W429.2.1, W429.2.2.1, W429.2.2.2), 0)) else if u430.1 = 6 then (some ((W429.1, W429.2.1, W429.2.2.1, W429.2.2.2), 0)) else if u430.1 = 7 then (some ((W429.1, W429.2.1, W429.2.2.1, W429.2.2.2), 0)) else if u430.1 = 8 then (some ((W429.1, W429.2.1, W429.2.2.1, W429.2.2.2), 0)) else if u430.1 = 9 then (some ((W429.1, W429.2.1, W429.2.2.1, W429.2.2.2), 0)) else if u430.1 = 10 then (some ((W429.1, W429.2.1, W429.2.2.1, W429.2.2.2), 0)) else if u430.1 = 11 then (some ((W429.1, W429.2.1, W429.2.2.1, W429.2.2.2), 0)) else if u430.1 = 12 then (some ((W429.1, W429.2.1, W429.2.2.1, W429.2.2.2), 0)) else if u430.1 = 13 then (some ((W429.1, W429.2.1, W429.2.2.1, W429.2.2.2), 0)) else if u430.1 = 14 then (some ((W429.1, W429.2.1, W429.2.2.1, W429.2.2.2), 0)) else if u430.1 = 15 then (some ((W429.1, W429.2.1, W429.2.2.1, W429.2.2.2), 0)) else if u430.1 = 16 then (some ((W429.1, W429.2.1, W429.2.2.1, W429.2.2.2), 0)) else if u430.1 = 17 then (some ((W429.1, W429.2.1, W429.2.2.1, W429.2.2.2), 0)) else if u430.1 = 18 then (some ((W429.1, W429.2.1, W429.2.2.1, W429.2.2.2), 0)) else if u430.1 = 19 then (some ((W429.1, W429.2.1, W429.2.2.1, W429.2.2.2), 0)) else if u430.1 = 20 then (some ((W429.1, W429.2.1, W429.2.2.1, W429.2.2.2), 0)) else if u430.1 = 21 then (some ((W429.1, W429.2.1, W429.2.2.1, W429.2.2.2), 0)) else if u430.1 = 22 then (some ((W429.1, W429.2.1, W429.2.2.1, W429.2.2.2), 0)) else if u430.1 = 23 then (some ((W429.1, W429.2.1, W429.2.2.1, W429.2.2.2), 0)) else if u430.1 = 24 then (some ((W429.1, W429.2.1, W429.2.2.1, W429.2.2.2), 0)) else if u430.1 = 25 then (some ((W429.1, W429.2.1, W429.2.2.1, W429.2.2.2), 0)) else if u430.1 = 26 then (some ((W429.1, W429.2.1, W429.2.2.1, W429.2.2.2), 0)) else if u430.1 = 27 then (some ((W429.1, W429.2.1, W429.2.2.1, W429.2.2.2), 0)) else if u430.1 = 28 then (some ((W429.1, W429.2.1, W429.2.2.1, W429.2.2.2), 0)) else if u430.1 = 29 then (some ((W429.1, W429.2.1, W429.2.2.1, W429.2.2.2), 0)) else if u430.1 = 30 then (some ((W429.1, W429.2.1, W429.2.2.1, W429.2.2.2), 0)) else if u430.1 = 31 then (some ((W429.1, W429.2.1, W429.2.2.1, W429.2.2.2), 0)) else if u430.1 = 32 then (some ((W429.1, W429.2.1, W429.2.2.1, W429.2.2.2), 0)) else (some ((W429.1, W429.2.1, W429.2.2.1, W429.2.2.2), 1))
