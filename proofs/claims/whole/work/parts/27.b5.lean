section ZB5
variable {xs : Nat → Int} {xl d : Nat} {m : zM} {Q : zRes → zM → Prop}
theorem bX11_become_0 {a0 : Nat} {a1 : Nat} (h : (mC m a1 = 12) ∧ (mC m a0 = 12) ∧ zC xs xl d 130 [zR (mR m 706 a1), zR (mR m 706 a0)] (sI (sI (sI (sI (sI (sI m 704 a0 (mI m 704 a1)) 705 a0 (mI m 705 a1)) 712 a0 (mI m 712 a1)) 736 a0 (mI m 736 a1)) 737 a0 (mI m 737 a1)) 738 a0 (mI m 738 a1)) (fun r m3 => r = .inl none ∧ (mC m3 a1 = 12) ∧ (mC m3 a0 = 12) ∧ zC xs xl d 130 [zR (mR m3 707 a1), zR (mR m3 707 a0)] m3 (fun r m7 => r = .inl none ∧ (mC m7 a1 = 12) ∧ (mC m7 a0 = 12) ∧ zC xs xl d 130 [zR (mR m7 708 a1), zR (mR m7 708 a0)] m7 (fun r m11 => r = .inl none ∧ (mC m11 a1 = 12) ∧ (mC m11 a0 = 12) ∧ zC xs xl d 130 [zR (mR m11 709 a1), zR (mR m11 709 a0)] m11 (fun r m15 => r = .inl none ∧ (mC m15 a1 = 12) ∧ (mC m15 a0 = 12) ∧ zC xs xl d 130 [zR (mR m15 710 a1), zR (mR m15 710 a0)] m15 (fun r m19 => r = .inl none ∧ (mC m19 a1 = 12) ∧ (mC m19 a0 = 12) ∧ zC xs xl d 130 [zR (mR m19 711 a1), zR (mR m19 711 a0)] m19 (fun r m23 => r = .inl none ∧ (mC m23 a1 = 12) ∧ (mC m23 a0 = 12) ∧ zC xs xl d 130 [zR (mR m23 713 a1), zR (mR m23 713 a0)] m23 (fun r m27 => r = .inl none ∧ (mC m27 a1 = 12) ∧ (mC m27 a0 = 12) ∧ zC xs xl d 131 [zR (mR m27 714 a1), zR (mR m27 714 a0)] m27 (fun r m31 => r = .inl none ∧ (mC m31 a1 = 12) ∧ (mC m31 a0 = 12) ∧ zC xs xl d 130 [zR (mR m31 715 a1), zR (mR m31 715 a0)] m31 (fun r m35 => r = .inl none ∧ (mC m35 a1 = 12) ∧ (mC m35 a0 = 12) ∧ zC xs xl d 130 [zR (mR m35 716 a1), zR (mR m35 716 a0)] m35 (fun r m39 => r = .inl none ∧ (mC m39 a1 = 12) ∧ (mC m39 a0 = 12) ∧ zC xs xl d 130 [zR (mR m39 717 a1), zR (mR m39 717 a0)] m39 (fun r m43 => r = .inl none ∧ (mC m43 a1 = 12) ∧ (mC m43 a0 = 12) ∧ zC xs xl d 130 [zR (mR m43 718 a1), zR (mR m43 718 a0)] m43 (fun r m47 => r = .inl none ∧ (mC m47 a1 = 12) ∧ (mC m47 a0 = 12) ∧ zC xs xl d 130 [zR (mR m47 719 a1), zR (mR m47 719 a0)] m47 (fun r m51 => r = .inl none ∧ (mC m51 a1 = 12) ∧ (mC m51 a0 = 12) ∧ zC xs xl d 130 [zR (mR m51 720 a1), zR (mR m51 720 a0)] m51 (fun r m55 => r = .inl none ∧ (mC m55 a1 = 12) ∧ (mC m55 a0 = 12) ∧ zC xs xl d 130 [zR (mR m55 721 a1), zR (mR m55 721 a0)] m55 (fun r m59 => r = .inl none ∧ (mC m59 a1 = 12) ∧ (mC m59 a0 = 12) ∧ zC xs xl d 130 [zR (mR m59 722 a1), zR (mR m59 722 a0)] m59 (fun r m63 => r = .inl none ∧ (mC m63 a1 = 12) ∧ (mC m63 a0 = 12) ∧ zC xs xl d 130 [zR (mR m63 723 a1), zR (mR m63 723 a0)] m63 (fun r m67 => r = .inl none ∧ (mC m67 a1 = 12) ∧ (mC m67 a0 = 12) ∧ zC xs xl d 130 [zR (mR m67 724 a1), zR (mR m67 724 a0)] m67 (fun r m71 => r = .inl none ∧ (mC m71 a1 = 12) ∧ (mC m71 a0 = 12) ∧ zC xs xl d 130 [zR (mR m71 725 a1), zR (mR m71 725 a0)] m71 (fun r m75 => r = .inl none ∧ (mC m75 a1 = 12) ∧ (mC m75 a0 = 12) ∧ zC xs xl d 130 [zR (mR m75 726 a1), zR (mR m75 726 a0)] m75 (fun r m79 => r = .inl none ∧ (mC m79 a1 = 12) ∧ (mC m79 a0 = 12) ∧ zC xs xl d 130 [zR (mR m79 727 a1), zR (mR m79 727 a0)] m79 (fun r m83 => r = .inl none ∧ (mC m83 a1 = 12) ∧ (mC m83 a0 = 12) ∧ zC xs xl d 131 [zR (mR m83 728 a1), zR (mR m83 728 a0)] m83 (fun r m87 => r = .inl none ∧ (mC m87 a1 = 12) ∧ (mC m87 a0 = 12) ∧ zC xs xl d 131 [zR (mR m87 729 a1), zR (mR m87 729 a0)] m87 (fun r m91 => r = .inl none ∧ (mC m91 a1 = 12) ∧ (mC m91 a0 = 12) ∧ zC xs xl d 130 [zR (mR m91 730 a1), zR (mR m91 730 a0)] m91 (fun r m95 => r = .inl none ∧ (mC m95 a1 = 12) ∧ (mC m95 a0 = 12) ∧ zC xs xl d 130 [zR (mR m95 731 a1), zR (mR m95 731 a0)] m95 (fun r m99 => r = .inl none ∧ (mC m99 a1 = 12) ∧ (mC m99 a0 = 12) ∧ zC xs xl d 130 [zR (mR m99 732 a1), zR (mR m99 732 a0)] m99 (fun r m103 => r = .inl none ∧ (mC m103 a1 = 12) ∧ (mC m103 a0 = 12) ∧ zC xs xl d 130 [zR (mR m103 733 a1), zR (mR m103 733 a0)] m103 (fun r m107 => r = .inl none ∧ (mC m107 a1 = 12) ∧ (mC m107 a0 = 12) ∧ zC xs xl d 130 [zR (mR m107 734 a1), zR (mR m107 734 a0)] m107 (fun r m111 => r = .inl none ∧ (mC m111 a1 = 12) ∧ (mC m111 a0 = 12) ∧ zC xs xl d 130 [zR (mR m111 735 a1), zR (mR m111 735 a0)] m111 (fun r m115 => r = .inl none ∧ (mC m115 a1 = 12) ∧ (mC m115 a0 = 12) ∧ zC xs xl d 130 [zR (mR m115 739 a1), zR (mR m115 739 a0)] m115 (fun r m119 => r = .inl none ∧ Q (.inl none) m119))))))))))))))))))))))))))))))) : zC xs xl (d + 1) 132 [zR a0, zR a1] m Q := by
  refine zk_132 ?_
  refine (zq_aload_n dX11_become_0 rfl).mpr ?_
  refine (zq_aload_n dX11_become_1 rfl).mpr ?_
  obtain ⟨g1, h⟩ := h
  refine (zq_getI2 (f := 704) (v := (mI m 704 a1)) dX11_become_2 fl_11_109 (by decide) rfl rfl (by first | rfl | simp only [zm_Is, zm_Rs, zm_As, zm_Os, zm_In0, zm_Rn0])).mpr ⟨g1, ?_⟩
  obtain ⟨g2, h⟩ := h
  refine (zq_putI (f := 704) dX11_become_5 fl_11_109 (by decide) rfl rfl rfl).mpr ⟨g2, ?_⟩
  refine (zq_aload_n dX11_become_8 rfl).mpr ?_
  refine (zq_aload_n dX11_become_9 rfl).mpr ?_
  refine (zq_getI2 (f := 705) (v := (mI m 705 a1)) dX11_become_10 fl_11_113 (by decide) rfl rfl (by first | rfl | simp only [zm_Is, zm_Rs, zm_As, zm_Os, zm_In0, zm_Rn0])).mpr ⟨g1, ?_⟩
  refine (zq_putI (f := 705) dX11_become_13 fl_11_113 (by decide) rfl rfl rfl).mpr ⟨g2, ?_⟩
  refine (zq_aload_n dX11_become_16 rfl).mpr ?_
  refine (zq_aload_n dX11_become_17 rfl).mpr ?_
  refine (zq_getI2 (f := 712) (v := (mI m 712 a1)) dX11_become_18 fl_11_116 (by decide) rfl rfl (by first | rfl | simp only [zm_Is, zm_Rs, zm_As, zm_Os, zm_In0, zm_Rn0])).mpr ⟨g1, ?_⟩
  refine (zq_putI (f := 712) dX11_become_21 fl_11_116 (by decide) rfl rfl rfl).mpr ⟨g2, ?_⟩
  refine (zq_aload_n dX11_become_24 rfl).mpr ?_
  refine (zq_aload_n dX11_become_25 rfl).mpr ?_
  refine (zq_getI2 (f := 736) (v := (mI m 736 a1)) dX11_become_26 fl_11_119 (by decide) rfl rfl (by first | rfl | simp only [zm_Is, zm_Rs, zm_As, zm_Os, zm_In0, zm_Rn0])).mpr ⟨g1, ?_⟩
  refine (zq_putI (f := 736) dX11_become_29 fl_11_119 (by decide) rfl rfl rfl).mpr ⟨g2, ?_⟩
  refine (zq_aload_n dX11_become_32 rfl).mpr ?_
  refine (zq_aload_n dX11_become_33 rfl).mpr ?_
  refine (zq_getI2 (f := 737) (v := (mI m 737 a1)) dX11_become_34 fl_11_122 (by decide) rfl rfl (by first | rfl | simp only [zm_Is, zm_Rs, zm_As, zm_Os, zm_In0, zm_Rn0])).mpr ⟨g1, ?_⟩
  refine (zq_putI (f := 737) dX11_become_37 fl_11_122 (by decide) rfl rfl rfl).mpr ⟨g2, ?_⟩
  refine (zq_aload_n dX11_become_40 rfl).mpr ?_
  refine (zq_aload_n dX11_become_41 rfl).mpr ?_
  refine (zq_getI2 (f := 738) (v := (mI m 738 a1)) dX11_become_42 fl_11_125 (by decide) rfl rfl (by first | rfl | simp only [zm_Is, zm_Rs, zm_As, zm_Os, zm_In0, zm_Rn0])).mpr ⟨g1, ?_⟩
  refine (zq_putI (f := 738) dX11_become_45 fl_11_125 (by decide) rfl rfl rfl).mpr ⟨g2, ?_⟩
  refine (zq_aload_n dX11_become_48 rfl).mpr ?_
  refine (zq_getR2 (f := 706) (v := (mR m 706 a1)) dX11_become_49 fl_11_9 (by decide) rfl rfl (by first | rfl | simp only [zm_Is, zm_Rs, zm_As, zm_Os, zm_In0, zm_Rn0])).mpr ⟨g1, ?_⟩
  refine (zq_aload_n dX11_become_52 rfl).mpr ?_
  refine (zq_getR2 (f := 706) (v := (mR m 706 a0)) dX11_become_53 fl_11_9 (by decide) rfl rfl (by first | rfl | simp only [zm_Is, zm_Rs, zm_As, zm_Os, zm_In0, zm_Rn0])).mpr ⟨g2, ?_⟩
  refine zq_staticV (n := 2) dX11_become_56 mr_11_128 zn_130 rfl rfl (Nat.le_of_ble_eq_true rfl) (Nat.le_of_ble_eq_true rfl) ?_
  refine h.mono (fun r m3 h => ?_)
  obtain ⟨rfl, h⟩ := h
  refine ⟨rfl, ?_⟩
  refine (zq_aload_n dX11_become_59 rfl).mpr ?_
  obtain ⟨g5, h⟩ := h
  refine (zq_getR2 (f := 707) (v := (mR m3 707 a1)) dX11_become_60 fl_11_15 (by decide) rfl rfl (by first | rfl | simp only [zm_Is, zm_Rs, zm_As, zm_Os, zm_In0, zm_Rn0])).mpr ⟨g5, ?_⟩
  refine (zq_aload_n dX11_become_63 rfl).mpr ?_
  obtain ⟨g6, h⟩ := h
  refine (zq_getR2 (f := 707) (v := (mR m3 707 a0)) dX11_become_64 fl_11_15 (by decide) rfl rfl (by first | rfl | simp only [zm_Is, zm_Rs, zm_As, zm_Os, zm_In0, zm_Rn0])).mpr ⟨g6, ?_⟩
  refine zq_staticV (n := 2) dX11_become_67 mr_11_128 zn_130 rfl rfl (Nat.le_of_ble_eq_true rfl) (Nat.le_of_ble_eq_true rfl) ?_
  refine h.mono (fun r m7 h => ?_)
  obtain ⟨rfl, h⟩ := h
  refine ⟨rfl, ?_⟩
  refine (zq_aload_n dX11_become_70 rfl).mpr ?_
  obtain ⟨g9, h⟩ := h
  refine (zq_getR2 (f := 708) (v := (mR m7 708 a1)) dX11_become_71 fl_11_18 (by decide) rfl rfl (by first | rfl | simp only [zm_Is, zm_Rs, zm_As, zm_Os, zm_In0, zm_Rn0])).mpr ⟨g9, ?_⟩
  refine (zq_aload_n dX11_become_74 rfl).mpr ?_
  obtain ⟨g10, h⟩ := h
  refine (zq_getR2 (f := 708) (v := (mR m7 708 a0)) dX11_become_75 fl_11_18 (by decide) rfl rfl (by first | rfl | simp only [zm_Is, zm_Rs, zm_As, zm_Os, zm_In0, zm_Rn0])).mpr ⟨g10, ?_⟩
  refine zq_staticV (n := 2) dX11_become_78 mr_11_128 zn_130 rfl rfl (Nat.le_of_ble_eq_true rfl) (Nat.le_of_ble_eq_true rfl) ?_
  refine h.mono (fun r m11 h => ?_)
  obtain ⟨rfl, h⟩ := h
  refine ⟨rfl, ?_⟩
  refine (zq_aload_n dX11_become_81 rfl).mpr ?_
  obtain ⟨g13, h⟩ := h
  refine (zq_getR2 (f := 709) (v := (mR m11 709 a1)) dX11_become_82 fl_11_21 (by decide) rfl rfl (by first | rfl | simp only [zm_Is, zm_Rs, zm_As, zm_Os, zm_In0, zm_Rn0])).mpr ⟨g13, ?_⟩
  refine (zq_aload_n dX11_become_85 rfl).mpr ?_
  obtain ⟨g14, h⟩ := h
  refine (zq_getR2 (f := 709) (v := (mR m11 709 a0)) dX11_become_86 fl_11_21 (by decide) rfl rfl (by first | rfl | simp only [zm_Is, zm_Rs, zm_As, zm_Os, zm_In0, zm_Rn0])).mpr ⟨g14, ?_⟩
  refine zq_staticV (n := 2) dX11_become_89 mr_11_128 zn_130 rfl rfl (Nat.le_of_ble_eq_true rfl) (Nat.le_of_ble_eq_true rfl) ?_
  refine h.mono (fun r m15 h => ?_)
  obtain ⟨rfl, h⟩ := h
  refine ⟨rfl, ?_⟩
  refine (zq_aload_n dX11_become_92 rfl).mpr ?_
  obtain ⟨g17, h⟩ := h
  refine (zq_getR2 (f := 710) (v := (mR m15 710 a1)) dX11_become_93 fl_11_24 (by decide) rfl rfl (by first | rfl | simp only [zm_Is, zm_Rs, zm_As, zm_Os, zm_In0, zm_Rn0])).mpr ⟨g17, ?_⟩
  refine (zq_aload_n dX11_become_96 rfl).mpr ?_
  obtain ⟨g18, h⟩ := h
  refine (zq_getR2 (f := 710) (v := (mR m15 710 a0)) dX11_become_97 fl_11_24 (by decide) rfl rfl (by first | rfl | simp only [zm_Is, zm_Rs, zm_As, zm_Os, zm_In0, zm_Rn0])).mpr ⟨g18, ?_⟩
  refine zq_staticV (n := 2) dX11_become_100 mr_11_128 zn_130 rfl rfl (Nat.le_of_ble_eq_true rfl) (Nat.le_of_ble_eq_true rfl) ?_
  refine h.mono (fun r m19 h => ?_)
  obtain ⟨rfl, h⟩ := h
  refine ⟨rfl, ?_⟩
  refine (zq_aload_n dX11_become_103 rfl).mpr ?_
  obtain ⟨g21, h⟩ := h
  refine (zq_getR2 (f := 711) (v := (mR m19 711 a1)) dX11_become_104 fl_11_27 (by decide) rfl rfl (by first | rfl | simp only [zm_Is, zm_Rs, zm_As, zm_Os, zm_In0, zm_Rn0])).mpr ⟨g21, ?_⟩
  refine (zq_aload_n dX11_become_107 rfl).mpr ?_
  obtain ⟨g22, h⟩ := h
  refine (zq_getR2 (f := 711) (v := (mR m19 711 a0)) dX11_become_108 fl_11_27 (by decide) rfl rfl (by first | rfl | simp only [zm_Is, zm_Rs, zm_As, zm_Os, zm_In0, zm_Rn0])).mpr ⟨g22, ?_⟩
  refine zq_staticV (n := 2) dX11_become_111 mr_11_128 zn_130 rfl rfl (Nat.le_of_ble_eq_true rfl) (Nat.le_of_ble_eq_true rfl) ?_
  refine h.mono (fun r m23 h => ?_)
  obtain ⟨rfl, h⟩ := h
  refine ⟨rfl, ?_⟩
  refine (zq_aload_n dX11_become_114 rfl).mpr ?_
  obtain ⟨g25, h⟩ := h
  refine (zq_getR2 (f := 713) (v := (mR m23 713 a1)) dX11_become_115 fl_11_30 (by decide) rfl rfl (by first | rfl | simp only [zm_Is, zm_Rs, zm_As, zm_Os, zm_In0, zm_Rn0])).mpr ⟨g25, ?_⟩
  refine (zq_aload_n dX11_become_118 rfl).mpr ?_
  obtain ⟨g26, h⟩ := h
  refine (zq_getR2 (f := 713) (v := (mR m23 713 a0)) dX11_become_119 fl_11_30 (by decide) rfl rfl (by first | rfl | simp only [zm_Is, zm_Rs, zm_As, zm_Os, zm_In0, zm_Rn0])).mpr ⟨g26, ?_⟩
  refine zq_staticV (n := 2) dX11_become_122 mr_11_128 zn_130 rfl rfl (Nat.le_of_ble_eq_true rfl) (Nat.le_of_ble_eq_true rfl) ?_
  refine h.mono (fun r m27 h => ?_)
  obtain ⟨rfl, h⟩ := h
  refine ⟨rfl, ?_⟩
  refine (zq_aload_n dX11_become_125 rfl).mpr ?_
  obtain ⟨g29, h⟩ := h
  refine (zq_getR2 (f := 714) (v := (mR m27 714 a1)) dX11_become_126 fl_11_33 (by decide) rfl rfl (by first | rfl | simp only [zm_Is, zm_Rs, zm_As, zm_Os, zm_In0, zm_Rn0])).mpr ⟨g29, ?_⟩
  refine (zq_aload_n dX11_become_129 rfl).mpr ?_
  obtain ⟨g30, h⟩ := h
  refine (zq_getR2 (f := 714) (v := (mR m27 714 a0)) dX11_become_130 fl_11_33 (by decide) rfl rfl (by first | rfl | simp only [zm_Is, zm_Rs, zm_As, zm_Os, zm_In0, zm_Rn0])).mpr ⟨g30, ?_⟩
  refine zq_staticV (n := 2) dX11_become_133 mr_11_132 zn_131 rfl rfl (Nat.le_of_ble_eq_true rfl) (Nat.le_of_ble_eq_true rfl) ?_
  refine h.mono (fun r m31 h => ?_)
  obtain ⟨rfl, h⟩ := h
  refine ⟨rfl, ?_⟩
  refine (zq_aload_n dX11_become_136 rfl).mpr ?_
  obtain ⟨g33, h⟩ := h
  refine (zq_getR2 (f := 715) (v := (mR m31 715 a1)) dX11_become_137 fl_11_37 (by decide) rfl rfl (by first | rfl | simp only [zm_Is, zm_Rs, zm_As, zm_Os, zm_In0, zm_Rn0])).mpr ⟨g33, ?_⟩
  refine (zq_aload_n dX11_become_140 rfl).mpr ?_
  obtain ⟨g34, h⟩ := h
  refine (zq_getR2 (f := 715) (v := (mR m31 715 a0)) dX11_become_141 fl_11_37 (by decide) rfl rfl (by first | rfl | simp only [zm_Is, zm_Rs, zm_As, zm_Os, zm_In0, zm_Rn0])).mpr ⟨g34, ?_⟩
  refine zq_staticV (n := 2) dX11_become_144 mr_11_128 zn_130 rfl rfl (Nat.le_of_ble_eq_true rfl) (Nat.le_of_ble_eq_true rfl) ?_
  refine h.mono (fun r m35 h => ?_)
  obtain ⟨rfl, h⟩ := h
  refine ⟨rfl, ?_⟩
  refine (zq_aload_n dX11_become_147 rfl).mpr ?_
  obtain ⟨g37, h⟩ := h
  refine (zq_getR2 (f := 716) (v := (mR m35 716 a1)) dX11_become_148 fl_11_40 (by decide) rfl rfl (by first | rfl | simp only [zm_Is, zm_Rs, zm_As, zm_Os, zm_In0, zm_Rn0])).mpr ⟨g37, ?_⟩
  refine (zq_aload_n dX11_become_151 rfl).mpr ?_
  obtain ⟨g38, h⟩ := h
  refine (zq_getR2 (f := 716) (v := (mR m35 716 a0)) dX11_become_152 fl_11_40 (by decide) rfl rfl (by first | rfl | simp only [zm_Is, zm_Rs, zm_As, zm_Os, zm_In0, zm_Rn0])).mpr ⟨g38, ?_⟩
  refine zq_staticV (n := 2) dX11_become_155 mr_11_128 zn_130 rfl rfl (Nat.le_of_ble_eq_true rfl) (Nat.le_of_ble_eq_true rfl) ?_
  refine h.mono (fun r m39 h => ?_)
  obtain ⟨rfl, h⟩ := h
  refine ⟨rfl, ?_⟩
  refine (zq_aload_n dX11_become_158 rfl).mpr ?_
  obtain ⟨g41, h⟩ := h
  refine (zq_getR2 (f := 717) (v := (mR m39 717 a1)) dX11_become_159 fl_11_43 (by decide) rfl rfl (by first | rfl | simp only [zm_Is, zm_Rs, zm_As, zm_Os, zm_In0, zm_Rn0])).mpr ⟨g41, ?_⟩
  refine (zq_aload_n dX11_become_162 rfl).mpr ?_
  obtain ⟨g42, h⟩ := h
  refine (zq_getR2 (f := 717) (v := (mR m39 717 a0)) dX11_become_163 fl_11_43 (by decide) rfl rfl (by first | rfl | simp only [zm_Is, zm_Rs, zm_As, zm_Os, zm_In0, zm_Rn0])).mpr ⟨g42, ?_⟩
  refine zq_staticV (n := 2) dX11_become_166 mr_11_128 zn_130 rfl rfl (Nat.le_of_ble_eq_true rfl) (Nat.le_of_ble_eq_true rfl) ?_
  refine h.mono (fun r m43 h => ?_)
  obtain ⟨rfl, h⟩ := h
  refine ⟨rfl, ?_⟩
  refine (zq_aload_n dX11_become_169 rfl).mpr ?_
  obtain ⟨g45, h⟩ := h
  refine (zq_getR2 (f := 718) (v := (mR m43 718 a1)) dX11_become_170 fl_11_46 (by decide) rfl rfl (by first | rfl | simp only [zm_Is, zm_Rs, zm_As, zm_Os, zm_In0, zm_Rn0])).mpr ⟨g45, ?_⟩
  refine (zq_aload_n dX11_become_173 rfl).mpr ?_
  obtain ⟨g46, h⟩ := h
  refine (zq_getR2 (f := 718) (v := (mR m43 718 a0)) dX11_become_174 fl_11_46 (by decide) rfl rfl (by first | rfl | simp only [zm_Is, zm_Rs, zm_As, zm_Os, zm_In0, zm_Rn0])).mpr ⟨g46, ?_⟩
  refine zq_staticV (n := 2) dX11_become_177 mr_11_128 zn_130 rfl rfl (Nat.le_of_ble_eq_true rfl) (Nat.le_of_ble_eq_true rfl) ?_
  refine h.mono (fun r m47 h => ?_)
  obtain ⟨rfl, h⟩ := h
  refine ⟨rfl, ?_⟩
  refine (zq_aload_n dX11_become_180 rfl).mpr ?_
  obtain ⟨g49, h⟩ := h
  refine (zq_getR2 (f := 719) (v := (mR m47 719 a1)) dX11_become_181 fl_11_49 (by decide) rfl rfl (by first | rfl | simp only [zm_Is, zm_Rs, zm_As, zm_Os, zm_In0, zm_Rn0])).mpr ⟨g49, ?_⟩
  refine (zq_aload_n dX11_become_184 rfl).mpr ?_
  obtain ⟨g50, h⟩ := h
  refine (zq_getR2 (f := 719) (v := (mR m47 719 a0)) dX11_become_185 fl_11_49 (by decide) rfl rfl (by first | rfl | simp only [zm_Is, zm_Rs, zm_As, zm_Os, zm_In0, zm_Rn0])).mpr ⟨g50, ?_⟩
  refine zq_staticV (n := 2) dX11_become_188 mr_11_128 zn_130 rfl rfl (Nat.le_of_ble_eq_true rfl) (Nat.le_of_ble_eq_true rfl) ?_
  refine h.mono (fun r m51 h => ?_)
  obtain ⟨rfl, h⟩ := h
  refine ⟨rfl, ?_⟩
  refine (zq_aload_n dX11_become_191 rfl).mpr ?_
  obtain ⟨g53, h⟩ := h
  refine (zq_getR2 (f := 720) (v := (mR m51 720 a1)) dX11_become_192 fl_11_52 (by decide) rfl rfl (by first | rfl | simp only [zm_Is, zm_Rs, zm_As, zm_Os, zm_In0, zm_Rn0])).mpr ⟨g53, ?_⟩
  refine (zq_aload_n dX11_become_195 rfl).mpr ?_
  obtain ⟨g54, h⟩ := h
  refine (zq_getR2 (f := 720) (v := (mR m51 720 a0)) dX11_become_196 fl_11_52 (by decide) rfl rfl (by first | rfl | simp only [zm_Is, zm_Rs, zm_As, zm_Os, zm_In0, zm_Rn0])).mpr ⟨g54, ?_⟩
  refine zq_staticV (n := 2) dX11_become_199 mr_11_128 zn_130 rfl rfl (Nat.le_of_ble_eq_true rfl) (Nat.le_of_ble_eq_true rfl) ?_
  refine h.mono (fun r m55 h => ?_)
  obtain ⟨rfl, h⟩ := h
  refine ⟨rfl, ?_⟩
  refine (zq_aload_n dX11_become_202 rfl).mpr ?_
  obtain ⟨g57, h⟩ := h
  refine (zq_getR2 (f := 721) (v := (mR m55 721 a1)) dX11_become_203 fl_11_55 (by decide) rfl rfl (by first | rfl | simp only [zm_Is, zm_Rs, zm_As, zm_Os, zm_In0, zm_Rn0])).mpr ⟨g57, ?_⟩
  refine (zq_aload_n dX11_become_206 rfl).mpr ?_
  obtain ⟨g58, h⟩ := h
  refine (zq_getR2 (f := 721) (v := (mR m55 721 a0)) dX11_become_207 fl_11_55 (by decide) rfl rfl (by first | rfl | simp only [zm_Is, zm_Rs, zm_As, zm_Os, zm_In0, zm_Rn0])).mpr ⟨g58, ?_⟩
  refine zq_staticV (n := 2) dX11_become_210 mr_11_128 zn_130 rfl rfl (Nat.le_of_ble_eq_true rfl) (Nat.le_of_ble_eq_true rfl) ?_
  refine h.mono (fun r m59 h => ?_)
  obtain ⟨rfl, h⟩ := h
  refine ⟨rfl, ?_⟩
  refine (zq_aload_n dX11_become_213 rfl).mpr ?_
  obtain ⟨g61, h⟩ := h
  refine (zq_getR2 (f := 722) (v := (mR m59 722 a1)) dX11_become_214 fl_11_58 (by decide) rfl rfl (by first | rfl | simp only [zm_Is, zm_Rs, zm_As, zm_Os, zm_In0, zm_Rn0])).mpr ⟨g61, ?_⟩
  refine (zq_aload_n dX11_become_217 rfl).mpr ?_
  obtain ⟨g62, h⟩ := h
  refine (zq_getR2 (f := 722) (v := (mR m59 722 a0)) dX11_become_218 fl_11_58 (by decide) rfl rfl (by first | rfl | simp only [zm_Is, zm_Rs, zm_As, zm_Os, zm_In0, zm_Rn0])).mpr ⟨g62, ?_⟩
  refine zq_staticV (n := 2) dX11_become_221 mr_11_128 zn_130 rfl rfl (Nat.le_of_ble_eq_true rfl) (Nat.le_of_ble_eq_true rfl) ?_
  refine h.mono (fun r m63 h => ?_)
  obtain ⟨rfl, h⟩ := h
  refine ⟨rfl, ?_⟩
  refine (zq_aload_n dX11_become_224 rfl).mpr ?_
  obtain ⟨g65, h⟩ := h
  refine (zq_getR2 (f := 723) (v := (mR m63 723 a1)) dX11_become_225 fl_11_61 (by decide) rfl rfl (by first | rfl | simp only [zm_Is, zm_Rs, zm_As, zm_Os, zm_In0, zm_Rn0])).mpr ⟨g65, ?_⟩
  refine (zq_aload_n dX11_become_228 rfl).mpr ?_
  obtain ⟨g66, h⟩ := h
  refine (zq_getR2 (f := 723) (v := (mR m63 723 a0)) dX11_become_229 fl_11_61 (by decide) rfl rfl (by first | rfl | simp only [zm_Is, zm_Rs, zm_As, zm_Os, zm_In0, zm_Rn0])).mpr ⟨g66, ?_⟩
  refine zq_staticV (n := 2) dX11_become_232 mr_11_128 zn_130 rfl rfl (Nat.le_of_ble_eq_true rfl) (Nat.le_of_ble_eq_true rfl) ?_
  refine h.mono (fun r m67 h => ?_)
  obtain ⟨rfl, h⟩ := h
  refine ⟨rfl, ?_⟩
  refine (zq_aload_n dX11_become_235 rfl).mpr ?_
  obtain ⟨g69, h⟩ := h
  refine (zq_getR2 (f := 724) (v := (mR m67 724 a1)) dX11_become_236 fl_11_64 (by decide) rfl rfl (by first | rfl | simp only [zm_Is, zm_Rs, zm_As, zm_Os, zm_In0, zm_Rn0])).mpr ⟨g69, ?_⟩
  refine (zq_aload_n dX11_become_239 rfl).mpr ?_
  obtain ⟨g70, h⟩ := h
  refine (zq_getR2 (f := 724) (v := (mR m67 724 a0)) dX11_become_240 fl_11_64 (by decide) rfl rfl (by first | rfl | simp only [zm_Is, zm_Rs, zm_As, zm_Os, zm_In0, zm_Rn0])).mpr ⟨g70, ?_⟩
  refine zq_staticV (n := 2) dX11_become_243 mr_11_128 zn_130 rfl rfl (Nat.le_of_ble_eq_true rfl) (Nat.le_of_ble_eq_true rfl) ?_
  refine h.mono (fun r m71 h => ?_)
  obtain ⟨rfl, h⟩ := h
  refine ⟨rfl, ?_⟩
  refine (zq_aload_n dX11_become_246 rfl).mpr ?_
  obtain ⟨g73, h⟩ := h
  refine (zq_getR2 (f := 725) (v := (mR m71 725 a1)) dX11_become_247 fl_11_67 (by decide) rfl rfl (by first | rfl | simp only [zm_Is, zm_Rs, zm_As, zm_Os, zm_In0, zm_Rn0])).mpr ⟨g73, ?_⟩
  refine (zq_aload_n dX11_become_250 rfl).mpr ?_
  obtain ⟨g74, h⟩ := h
  refine (zq_getR2 (f := 725) (v := (mR m71 725 a0)) dX11_become_251 fl_11_67 (by decide) rfl rfl (by first | rfl | simp only [zm_Is, zm_Rs, zm_As, zm_Os, zm_In0, zm_Rn0])).mpr ⟨g74, ?_⟩
  refine zq_staticV (n := 2) dX11_become_254 mr_11_128 zn_130 rfl rfl (Nat.le_of_ble_eq_true rfl) (Nat.le_of_ble_eq_true rfl) ?_
  refine h.mono (fun r m75 h => ?_)
  obtain ⟨rfl, h⟩ := h
  refine ⟨rfl, ?_⟩
  refine (zq_aload_n dX11_become_257 rfl).mpr ?_
  obtain ⟨g77, h⟩ := h
  refine (zq_getR2 (f := 726) (v := (mR m75 726 a1)) dX11_become_258 fl_11_70 (by decide) rfl rfl (by first | rfl | simp only [zm_Is, zm_Rs, zm_As, zm_Os, zm_In0, zm_Rn0])).mpr ⟨g77, ?_⟩
  refine (zq_aload_n dX11_become_261 rfl).mpr ?_
  obtain ⟨g78, h⟩ := h
  refine (zq_getR2 (f := 726) (v := (mR m75 726 a0)) dX11_become_262 fl_11_70 (by decide) rfl rfl (by first | rfl | simp only [zm_Is, zm_Rs, zm_As, zm_Os, zm_In0, zm_Rn0])).mpr ⟨g78, ?_⟩
  refine zq_staticV (n := 2) dX11_become_265 mr_11_128 zn_130 rfl rfl (Nat.le_of_ble_eq_true rfl) (Nat.le_of_ble_eq_true rfl) ?_
  refine h.mono (fun r m79 h => ?_)
  obtain ⟨rfl, h⟩ := h
  refine ⟨rfl, ?_⟩
  refine (zq_aload_n dX11_become_268 rfl).mpr ?_
  obtain ⟨g81, h⟩ := h
  refine (zq_getR2 (f := 727) (v := (mR m79 727 a1)) dX11_become_269 fl_11_73 (by decide) rfl rfl (by first | rfl | simp only [zm_Is, zm_Rs, zm_As, zm_Os, zm_In0, zm_Rn0])).mpr ⟨g81, ?_⟩
  refine (zq_aload_n dX11_become_272 rfl).mpr ?_
  obtain ⟨g82, h⟩ := h
  refine (zq_getR2 (f := 727) (v := (mR m79 727 a0)) dX11_become_273 fl_11_73 (by decide) rfl rfl (by first | rfl | simp only [zm_Is, zm_Rs, zm_As, zm_Os, zm_In0, zm_Rn0])).mpr ⟨g82, ?_⟩
  refine zq_staticV (n := 2) dX11_become_276 mr_11_128 zn_130 rfl rfl (Nat.le_of_ble_eq_true rfl) (Nat.le_of_ble_eq_true rfl) ?_
  refine h.mono (fun r m83 h => ?_)
  obtain ⟨rfl, h⟩ := h
  refine ⟨rfl, ?_⟩
  refine (zq_aload_n dX11_become_279 rfl).mpr ?_
  obtain ⟨g85, h⟩ := h
  refine (zq_getR2 (f := 728) (v := (mR m83 728 a1)) dX11_become_280 fl_11_76 (by decide) rfl rfl (by first | rfl | simp only [zm_Is, zm_Rs, zm_As, zm_Os, zm_In0, zm_Rn0])).mpr ⟨g85, ?_⟩
  refine (zq_aload_n dX11_become_283 rfl).mpr ?_
  obtain ⟨g86, h⟩ := h
  refine (zq_getR2 (f := 728) (v := (mR m83 728 a0)) dX11_become_284 fl_11_76 (by decide) rfl rfl (by first | rfl | simp only [zm_Is, zm_Rs, zm_As, zm_Os, zm_In0, zm_Rn0])).mpr ⟨g86, ?_⟩
  refine zq_staticV (n := 2) dX11_become_287 mr_11_132 zn_131 rfl rfl (Nat.le_of_ble_eq_true rfl) (Nat.le_of_ble_eq_true rfl) ?_
  refine h.mono (fun r m87 h => ?_)
  obtain ⟨rfl, h⟩ := h
  refine ⟨rfl, ?_⟩
  refine (zq_aload_n dX11_become_290 rfl).mpr ?_
  obtain ⟨g89, h⟩ := h
  refine (zq_getR2 (f := 729) (v := (mR m87 729 a1)) dX11_become_291 fl_11_79 (by decide) rfl rfl (by first | rfl | simp only [zm_Is, zm_Rs, zm_As, zm_Os, zm_In0, zm_Rn0])).mpr ⟨g89, ?_⟩
  refine (zq_aload_n dX11_become_294 rfl).mpr ?_
  obtain ⟨g90, h⟩ := h
  refine (zq_getR2 (f := 729) (v := (mR m87 729 a0)) dX11_become_295 fl_11_79 (by decide) rfl rfl (by first | rfl | simp only [zm_Is, zm_Rs, zm_As, zm_Os, zm_In0, zm_Rn0])).mpr ⟨g90, ?_⟩
  refine zq_staticV (n := 2) dX11_become_298 mr_11_132 zn_131 rfl rfl (Nat.le_of_ble_eq_true rfl) (Nat.le_of_ble_eq_true rfl) ?_
  refine h.mono (fun r m91 h => ?_)
  obtain ⟨rfl, h⟩ := h
  refine ⟨rfl, ?_⟩
  refine (zq_aload_n dX11_become_301 rfl).mpr ?_
  obtain ⟨g93, h⟩ := h
  refine (zq_getR2 (f := 730) (v := (mR m91 730 a1)) dX11_become_302 fl_11_82 (by decide) rfl rfl (by first | rfl | simp only [zm_Is, zm_Rs, zm_As, zm_Os, zm_In0, zm_Rn0])).mpr ⟨g93, ?_⟩
  refine (zq_aload_n dX11_become_305 rfl).mpr ?_
  obtain ⟨g94, h⟩ := h
  refine (zq_getR2 (f := 730) (v := (mR m91 730 a0)) dX11_become_306 fl_11_82 (by decide) rfl rfl (by first | rfl | simp only [zm_Is, zm_Rs, zm_As, zm_Os, zm_In0, zm_Rn0])).mpr ⟨g94, ?_⟩
  refine zq_staticV (n := 2) dX11_become_309 mr_11_128 zn_130 rfl rfl (Nat.le_of_ble_eq_true rfl) (Nat.le_of_ble_eq_true rfl) ?_
  refine h.mono (fun r m95 h => ?_)
  obtain ⟨rfl, h⟩ := h
  refine ⟨rfl, ?_⟩
  refine (zq_aload_n dX11_become_312 rfl).mpr ?_
  obtain ⟨g97, h⟩ := h
  refine (zq_getR2 (f := 731) (v := (mR m95 731 a1)) dX11_become_313 fl_11_85 (by decide) rfl rfl (by first | rfl | simp only [zm_Is, zm_Rs, zm_As, zm_Os, zm_In0, zm_Rn0])).mpr ⟨g97, ?_⟩
  refine (zq_aload_n dX11_become_316 rfl).mpr ?_
  obtain ⟨g98, h⟩ := h
  refine (zq_getR2 (f := 731) (v := (mR m95 731 a0)) dX11_become_317 fl_11_85 (by decide) rfl rfl (by first | rfl | simp only [zm_Is, zm_Rs, zm_As, zm_Os, zm_In0, zm_Rn0])).mpr ⟨g98, ?_⟩
  refine zq_staticV (n := 2) dX11_become_320 mr_11_128 zn_130 rfl rfl (Nat.le_of_ble_eq_true rfl) (Nat.le_of_ble_eq_true rfl) ?_
  refine h.mono (fun r m99 h => ?_)
  obtain ⟨rfl, h⟩ := h
  refine ⟨rfl, ?_⟩
  refine (zq_aload_n dX11_become_323 rfl).mpr ?_
  obtain ⟨g101, h⟩ := h
  refine (zq_getR2 (f := 732) (v := (mR m99 732 a1)) dX11_become_324 fl_11_88 (by decide) rfl rfl (by first | rfl | simp only [zm_Is, zm_Rs, zm_As, zm_Os, zm_In0, zm_Rn0])).mpr ⟨g101, ?_⟩
  refine (zq_aload_n dX11_become_327 rfl).mpr ?_
  obtain ⟨g102, h⟩ := h
  refine (zq_getR2 (f := 732) (v := (mR m99 732 a0)) dX11_become_328 fl_11_88 (by decide) rfl rfl (by first | rfl | simp only [zm_Is, zm_Rs, zm_As, zm_Os, zm_In0, zm_Rn0])).mpr ⟨g102, ?_⟩
  refine zq_staticV (n := 2) dX11_become_331 mr_11_128 zn_130 rfl rfl (Nat.le_of_ble_eq_true rfl) (Nat.le_of_ble_eq_true rfl) ?_
  refine h.mono (fun r m103 h => ?_)
  obtain ⟨rfl, h⟩ := h
  refine ⟨rfl, ?_⟩
  refine (zq_aload_n dX11_become_334 rfl).mpr ?_
  obtain ⟨g105, h⟩ := h
  refine (zq_getR2 (f := 733) (v := (mR m103 733 a1)) dX11_become_335 fl_11_91 (by decide) rfl rfl (by first | rfl | simp only [zm_Is, zm_Rs, zm_As, zm_Os, zm_In0, zm_Rn0])).mpr ⟨g105, ?_⟩
  refine (zq_aload_n dX11_become_338 rfl).mpr ?_
  obtain ⟨g106, h⟩ := h
  refine (zq_getR2 (f := 733) (v := (mR m103 733 a0)) dX11_become_339 fl_11_91 (by decide) rfl rfl (by first | rfl | simp only [zm_Is, zm_Rs, zm_As, zm_Os, zm_In0, zm_Rn0])).mpr ⟨g106, ?_⟩
  refine zq_staticV (n := 2) dX11_become_342 mr_11_128 zn_130 rfl rfl (Nat.le_of_ble_eq_true rfl) (Nat.le_of_ble_eq_true rfl) ?_
  refine h.mono (fun r m107 h => ?_)
  obtain ⟨rfl, h⟩ := h
  refine ⟨rfl, ?_⟩
  refine (zq_aload_n dX11_become_345 rfl).mpr ?_
  obtain ⟨g109, h⟩ := h
  refine (zq_getR2 (f := 734) (v := (mR m107 734 a1)) dX11_become_346 fl_11_94 (by decide) rfl rfl (by first | rfl | simp only [zm_Is, zm_Rs, zm_As, zm_Os, zm_In0, zm_Rn0])).mpr ⟨g109, ?_⟩
  refine (zq_aload_n dX11_become_349 rfl).mpr ?_
  obtain ⟨g110, h⟩ := h
  refine (zq_getR2 (f := 734) (v := (mR m107 734 a0)) dX11_become_350 fl_11_94 (by decide) rfl rfl (by first | rfl | simp only [zm_Is, zm_Rs, zm_As, zm_Os, zm_In0, zm_Rn0])).mpr ⟨g110, ?_⟩
  refine zq_staticV (n := 2) dX11_become_353 mr_11_128 zn_130 rfl rfl (Nat.le_of_ble_eq_true rfl) (Nat.le_of_ble_eq_true rfl) ?_
  refine h.mono (fun r m111 h => ?_)
  obtain ⟨rfl, h⟩ := h
  refine ⟨rfl, ?_⟩
  refine (zq_aload_n dX11_become_356 rfl).mpr ?_
  obtain ⟨g113, h⟩ := h
  refine (zq_getR2 (f := 735) (v := (mR m111 735 a1)) dX11_become_357 fl_11_97 (by decide) rfl rfl (by first | rfl | simp only [zm_Is, zm_Rs, zm_As, zm_Os, zm_In0, zm_Rn0])).mpr ⟨g113, ?_⟩
  refine (zq_aload_n dX11_become_360 rfl).mpr ?_
  obtain ⟨g114, h⟩ := h
  refine (zq_getR2 (f := 735) (v := (mR m111 735 a0)) dX11_become_361 fl_11_97 (by decide) rfl rfl (by first | rfl | simp only [zm_Is, zm_Rs, zm_As, zm_Os, zm_In0, zm_Rn0])).mpr ⟨g114, ?_⟩
  refine zq_staticV (n := 2) dX11_become_364 mr_11_128 zn_130 rfl rfl (Nat.le_of_ble_eq_true rfl) (Nat.le_of_ble_eq_true rfl) ?_
  refine h.mono (fun r m115 h => ?_)
  obtain ⟨rfl, h⟩ := h
  refine ⟨rfl, ?_⟩
  refine (zq_aload_n dX11_become_367 rfl).mpr ?_
  obtain ⟨g117, h⟩ := h
  refine (zq_getR2 (f := 739) (v := (mR m115 739 a1)) dX11_become_368 fl_11_100 (by decide) rfl rfl (by first | rfl | simp only [zm_Is, zm_Rs, zm_As, zm_Os, zm_In0, zm_Rn0])).mpr ⟨g117, ?_⟩
  refine (zq_aload_n dX11_become_371 rfl).mpr ?_
  obtain ⟨g118, h⟩ := h
  refine (zq_getR2 (f := 739) (v := (mR m115 739 a0)) dX11_become_372 fl_11_100 (by decide) rfl rfl (by first | rfl | simp only [zm_Is, zm_Rs, zm_As, zm_Os, zm_In0, zm_Rn0])).mpr ⟨g118, ?_⟩
  refine zq_staticV (n := 2) dX11_become_375 mr_11_128 zn_130 rfl rfl (Nat.le_of_ble_eq_true rfl) (Nat.le_of_ble_eq_true rfl) ?_
  refine h.mono (fun r m119 h => ?_)
  obtain ⟨rfl, h⟩ := h
  refine ⟨rfl, ?_⟩
  exact (zq_ret dX11_become_378 rfl).mpr h
theorem bX11_isKnot_0 {a0 : Nat} {a1 : Int} {a2 : Int} (h : zW xs xl d cX11_isKnot 11 (some .boolean) false [] 5 [zR a0, zI a1, zI a2, zI 0, zI 0] [] m Q) : zC xs xl (d + 1) 133 [zR a0, zI a1, zI a2] m Q := by
  refine zk_133 ?_
  refine (zq_iconst dX11_isKnot_0 (by decide)).mpr ?_
  refine (zq_istore_n dX11_isKnot_1 (by simp) rfl).mpr ?_
  refine (zq_iconst dX11_isKnot_2 (by decide)).mpr ?_
  refine (zq_istore dX11_isKnot_3 (by simp) rfl).mpr ?_
  exact h
theorem bX11_isKnot_5 {a0 : Nat} {a1 : Int} {a2 : Int} {a3 : Int} {a4 : Int} (h : (mC m a0 = 12) ∧ (mC m (mR m 709 a0) = 20) ∧ (0 ≤ a1 ∧ a1 < mN m (mR m 709 a0)) ∧ (((mA m (mR m 709 a0) (Int.toNat a1)) ≤ a4 → (a3 = 0 ∨ a3 = 1) ∧ Q (.inl (some (zI a3))) m) ∧ (¬ ((mA m (mR m 709 a0) (Int.toNat a1)) ≤ a4) → ((a3 ≠ 0 → zW xs xl d cX11_isKnot 11 (some .boolean) false [] 5 [zR a0, zI a1, zI a2, zI 1, zI (wr (a4 + 1))] [] m Q) ∧ (¬ (a3 ≠ 0) → (mC m (mR m 710 a0) = 20) ∧ (0 ≤ (wr ((wr (8 * a1)) + a4)) ∧ (wr ((wr (8 * a1)) + a4)) < mN m (mR m 710 a0)) ∧ (((mA m (mR m 710 a0) (Int.toNat (wr ((wr (8 * a1)) + a4)))) ≠ a2 → zW xs xl d cX11_isKnot 11 (some .boolean) false [] 5 [zR a0, zI a1, zI a2, zI 0, zI (wr (a4 + 1))] [] m Q) ∧ (¬ ((mA m (mR m 710 a0) (Int.toNat (wr ((wr (8 * a1)) + a4)))) ≠ a2) → zW xs xl d cX11_isKnot 11 (some .boolean) false [] 5 [zR a0, zI a1, zI a2, zI 1, zI (wr (a4 + 1))] [] m Q))))))) : zW xs xl d cX11_isKnot 11 (some .boolean) false [] 5 [zR a0, zI a1, zI a2, zI a3, zI a4] [] m Q := by
  refine (zq_iload dX11_isKnot_5 rfl).mpr ?_
  refine (zq_aload_n dX11_isKnot_7 rfl).mpr ?_
  obtain ⟨g1, h⟩ := h
  refine (zq_getR2 (f := 709) (v := (mR m 709 a0)) dX11_isKnot_8 fl_11_21 (by decide) rfl rfl (by first | rfl | simp only [zm_Is, zm_Rs, zm_As, zm_Os, zm_In0, zm_Rn0])).mpr ⟨g1, ?_⟩
  refine (zq_iload_n dX11_isKnot_11 rfl).mpr ?_
  obtain ⟨g2, h⟩ := h
  obtain ⟨g3, h⟩ := h
  refine (zq_iald2 (v := (mA m (mR m 709 a0) (Int.toNat a1))) dX11_isKnot_12 (by first | rfl | simp only [zm_Is, zm_Rs, zm_As, zm_Os, zm_In0, zm_Rn0])).mpr ⟨⟨g2, g3⟩, ?_⟩
  refine (zq_icmp_ge (t := 48) dX11_isKnot_13 rfl).mpr ⟨fun c => ?_, fun c => ?_⟩
  · replace h := h.1 c
    refine (zq_iload_n dX11_isKnot_48 rfl).mpr ?_
    obtain ⟨g4, h⟩ := h
    exact (zq_iret dX11_isKnot_49 rfl).mpr ⟨g4, h⟩
  · replace h := h.2 c
    refine (zq_iload_n dX11_isKnot_16 rfl).mpr ?_
    refine (zq_if_ne (t := 36) dX11_isKnot_17 rfl).mpr ⟨fun c => ?_, fun c => ?_⟩
    · replace h := h.1 c
      refine (zq_iconst dX11_isKnot_36 (by decide)).mpr ?_
      refine (zq_goto (t := 41) dX11_isKnot_37 rfl).mpr ?_
      refine (zq_istore_n dX11_isKnot_41 (by simp) rfl).mpr ?_
      refine (zq_iinc dX11_isKnot_42 rfl rfl).mpr ?_
      refine (zq_goto (t := 5) dX11_isKnot_45 rfl).mpr ?_
      exact h
    · replace h := h.2 c
      refine (zq_aload_n dX11_isKnot_20 rfl).mpr ?_
      refine (zq_getR2 (f := 710) (v := (mR m 710 a0)) dX11_isKnot_21 fl_11_24 (by decide) rfl rfl (by first | rfl | simp only [zm_Is, zm_Rs, zm_As, zm_Os, zm_In0, zm_Rn0])).mpr ⟨g1, ?_⟩
      refine (zq_bipush dX11_isKnot_24 (by decide)).mpr ?_
      refine (zq_iload_n dX11_isKnot_26 rfl).mpr ?_
      refine (zq_imul dX11_isKnot_27).mpr ?_
      refine (zq_iload dX11_isKnot_28 rfl).mpr ?_
      refine (zq_iadd dX11_isKnot_30).mpr ?_
      obtain ⟨g5, h⟩ := h
      obtain ⟨g6, h⟩ := h
      refine (zq_iald2 (v := (mA m (mR m 710 a0) (Int.toNat (wr ((wr (8 * a1)) + a4))))) dX11_isKnot_31 (by first | rfl | simp only [zm_Is, zm_Rs, zm_As, zm_Os, zm_In0, zm_Rn0])).mpr ⟨⟨g5, g6⟩, ?_⟩
      refine (zq_iload_n dX11_isKnot_32 rfl).mpr ?_
      refine (zq_icmp_ne (t := 40) dX11_isKnot_33 rfl).mpr ⟨fun c => ?_, fun c => ?_⟩
      · replace h := h.1 c
        refine (zq_iconst dX11_isKnot_40 (by decide)).mpr ?_
        refine (zq_istore_n dX11_isKnot_41 (by simp) rfl).mpr ?_
        refine (zq_iinc dX11_isKnot_42 rfl rfl).mpr ?_
        refine (zq_goto (t := 5) dX11_isKnot_45 rfl).mpr ?_
        exact h
      · replace h := h.2 c
        refine (zq_iconst dX11_isKnot_36 (by decide)).mpr ?_
        refine (zq_goto (t := 41) dX11_isKnot_37 rfl).mpr ?_
        refine (zq_istore_n dX11_isKnot_41 (by simp) rfl).mpr ?_
        refine (zq_iinc dX11_isKnot_42 rfl rfl).mpr ?_
        refine (zq_goto (t := 5) dX11_isKnot_45 rfl).mpr ?_
        exact h
theorem bX11_place_0 {a0 : Nat} {a1 : Int} {a2 : Int} (h : zW xs xl d cX11_place 11 (some .int) false [] 5 [zR a0, zI a1, zI a2, zI 0, zI 0] [] m Q) : zC xs xl (d + 1) 134 [zR a0, zI a1, zI a2] m Q := by
  refine zk_134 ?_
  refine (zq_iconst dX11_place_0 (by decide)).mpr ?_
  refine (zq_istore_n dX11_place_1 (by simp) rfl).mpr ?_
  refine (zq_iconst dX11_place_2 (by decide)).mpr ?_
  refine (zq_istore dX11_place_3 (by simp) rfl).mpr ?_
  exact h
theorem bX11_place_5 {a0 : Nat} {a1 : Int} {a2 : Int} {a3 : Int} {a4 : Int} (h : (mC m a0 = 12) ∧ (mC m (mR m 707 a0) = 20) ∧ (0 ≤ a1 ∧ a1 < mN m (mR m 707 a0)) ∧ (((mA m (mR m 707 a0) (Int.toNat a1)) ≤ a4 → Q (.inl (some (zI (-1)))) m) ∧ (¬ ((mA m (mR m 707 a0) (Int.toNat a1)) ≤ a4) → zC xs xl d 133 [zR a0, zI a1, zI a4] m (fun r m4 => ∃ v5 : Int, r = .inl (some (zI v5)) ∧ ((v5 = 0 → (((wr ((wr (a4 + 1)) - a3)) ≠ a2 → zW xs xl d cX11_place 11 (some .int) false [] 5 [zR a0, zI a1, zI a2, zI a3, zI (wr (a4 + 1))] [] m4 Q) ∧ (¬ ((wr ((wr (a4 + 1)) - a3)) ≠ a2) → Q (.inl (some (zI a3))) m4))) ∧ (¬ (v5 = 0) → zW xs xl d cX11_place 11 (some .int) false [] 5 [zR a0, zI a1, zI a2, zI (wr (a4 + 1)), zI (wr (a4 + 1))] [] m4 Q)))))) : zW xs xl d cX11_place 11 (some .int) false [] 5 [zR a0, zI a1, zI a2, zI a3, zI a4] [] m Q := by
  refine (zq_iload dX11_place_5 rfl).mpr ?_
  refine (zq_aload_n dX11_place_7 rfl).mpr ?_
  obtain ⟨g1, h⟩ := h
  refine (zq_getR2 (f := 707) (v := (mR m 707 a0)) dX11_place_8 fl_11_15 (by decide) rfl rfl (by first | rfl | simp only [zm_Is, zm_Rs, zm_As, zm_Os, zm_In0, zm_Rn0])).mpr ⟨g1, ?_⟩
  refine (zq_iload_n dX11_place_11 rfl).mpr ?_
  obtain ⟨g2, h⟩ := h
  obtain ⟨g3, h⟩ := h
  refine (zq_iald2 (v := (mA m (mR m 707 a0) (Int.toNat a1))) dX11_place_12 (by first | rfl | simp only [zm_Is, zm_Rs, zm_As, zm_Os, zm_In0, zm_Rn0])).mpr ⟨⟨g2, g3⟩, ?_⟩
  refine (zq_icmp_ge (t := 52) dX11_place_13 rfl).mpr ⟨fun c => ?_, fun c => ?_⟩
  · replace h := h.1 c
    refine (zq_iconst dX11_place_52 (by decide)).mpr ?_
    exact (zq_iret dX11_place_53 rfl).mpr ⟨trivial, h⟩
  · replace h := h.2 c
    refine (zq_aload_n dX11_place_16 rfl).mpr ?_
    refine (zq_iload_n dX11_place_17 rfl).mpr ?_
    refine (zq_iload dX11_place_18 rfl).mpr ?_
    refine zq_virtualI (n := 2) dX11_place_20 mr_11_135 zn_133 rfl rfl rfl (zrcv_R zo_133 (by decide) g1) (Nat.le_of_ble_eq_true rfl) ?_
    refine h.mono (fun r m4 h => ?_)
    obtain ⟨v5, rfl, h⟩ := h
    refine ⟨_, rfl, ?_⟩
    refine (zq_if_eq (t := 34) dX11_place_23 rfl).mpr ⟨fun c => ?_, fun c => ?_⟩
    · replace h := h.1 c
      refine (zq_iload dX11_place_34 rfl).mpr ?_
      refine (zq_iconst dX11_place_36 (by decide)).mpr ?_
      refine (zq_iadd dX11_place_37).mpr ?_
      refine (zq_iload_n dX11_place_38 rfl).mpr ?_
      refine (zq_isub dX11_place_39).mpr ?_
      refine (zq_iload_n dX11_place_40 rfl).mpr ?_
      refine (zq_icmp_ne (t := 46) dX11_place_41 rfl).mpr ⟨fun c => ?_, fun c => ?_⟩
      · replace h := h.1 c
        refine (zq_iinc dX11_place_46 rfl rfl).mpr ?_
        refine (zq_goto (t := 5) dX11_place_49 rfl).mpr ?_
        exact h
      · replace h := h.2 c
        refine (zq_iload_n dX11_place_44 rfl).mpr ?_
        exact (zq_iret dX11_place_45 rfl).mpr ⟨trivial, h⟩
    · replace h := h.2 c
      refine (zq_iload dX11_place_26 rfl).mpr ?_
      refine (zq_iconst dX11_place_28 (by decide)).mpr ?_
      refine (zq_iadd dX11_place_29).mpr ?_
      refine (zq_istore_n dX11_place_30 (by simp) rfl).mpr ?_
      refine (zq_goto (t := 46) dX11_place_31 rfl).mpr ?_
      refine (zq_iinc dX11_place_46 rfl rfl).mpr ?_
      refine (zq_goto (t := 5) dX11_place_49 rfl).mpr ?_
      exact h
theorem bX11_clear_0 {a0 : Nat} {a1 : Int} (h : zW xs xl d cX11_clear 11 (some .int) false [] 7 [zR a0, zI a1, zI 0, zI 0, zI 0] [] m Q) : zC xs xl (d + 1) 135 [zR a0, zI a1] m Q := by
  refine zk_135 ?_
  refine (zq_iconst dX11_clear_0 (by decide)).mpr ?_
  refine (zq_istore_n dX11_clear_1 (by simp) rfl).mpr ?_
  refine (zq_iconst dX11_clear_2 (by decide)).mpr ?_
  refine (zq_istore_n dX11_clear_3 (by simp) rfl).mpr ?_
  refine (zq_iconst dX11_clear_4 (by decide)).mpr ?_
  refine (zq_istore dX11_clear_5 (by simp) rfl).mpr ?_
  exact h
theorem bX11_clear_7 {a0 : Nat} {a1 : Int} {a2 : Int} {a3 : Int} {a4 : Int} (h : (mC m a0 = 12) ∧ (mC m (mR m 707 a0) = 20) ∧ (0 ≤ a1 ∧ a1 < mN m (mR m 707 a0)) ∧ (((mA m (mR m 707 a0) (Int.toNat a1)) ≤ a4 → Q (.inl (some (zI a2))) m) ∧ (¬ ((mA m (mR m 707 a0) (Int.toNat a1)) ≤ a4) → zC xs xl d 133 [zR a0, zI a1, zI a4] m (fun r m4 => ∃ v5 : Int, r = .inl (some (zI v5)) ∧ ((v5 = 0 → zW xs xl d cX11_clear 11 (some .int) false [] 7 [zR a0, zI a1, zI (if a2 < (wr ((wr (a4 + 1)) - a3)) then (wr ((wr (a4 + 1)) - a3)) else a2), zI a3, zI (wr (a4 + 1))] [] m4 Q) ∧ (¬ (v5 = 0) → zW xs xl d cX11_clear 11 (some .int) false [] 7 [zR a0, zI a1, zI a2, zI (wr (a4 + 1)), zI (wr (a4 + 1))] [] m4 Q)))))) : zW xs xl d cX11_clear 11 (some .int) false [] 7 [zR a0, zI a1, zI a2, zI a3, zI a4] [] m Q := by
  refine (zq_iload dX11_clear_7 rfl).mpr ?_
  refine (zq_aload_n dX11_clear_9 rfl).mpr ?_
  obtain ⟨g1, h⟩ := h
  refine (zq_getR2 (f := 707) (v := (mR m 707 a0)) dX11_clear_10 fl_11_15 (by decide) rfl rfl (by first | rfl | simp only [zm_Is, zm_Rs, zm_As, zm_Os, zm_In0, zm_Rn0])).mpr ⟨g1, ?_⟩
  refine (zq_iload_n dX11_clear_13 rfl).mpr ?_
  obtain ⟨g2, h⟩ := h
  obtain ⟨g3, h⟩ := h
  refine (zq_iald2 (v := (mA m (mR m 707 a0) (Int.toNat a1))) dX11_clear_14 (by first | rfl | simp only [zm_Is, zm_Rs, zm_As, zm_Os, zm_In0, zm_Rn0])).mpr ⟨⟨g2, g3⟩, ?_⟩
  refine (zq_icmp_ge (t := 53) dX11_clear_15 rfl).mpr ⟨fun c => ?_, fun c => ?_⟩
  · replace h := h.1 c
    refine (zq_iload_n dX11_clear_53 rfl).mpr ?_
    exact (zq_iret dX11_clear_54 rfl).mpr ⟨trivial, h⟩
  · replace h := h.2 c
    refine (zq_aload_n dX11_clear_18 rfl).mpr ?_
    refine (zq_iload_n dX11_clear_19 rfl).mpr ?_
    refine (zq_iload dX11_clear_20 rfl).mpr ?_
    refine zq_virtualI (n := 2) dX11_clear_22 mr_11_135 zn_133 rfl rfl rfl (zrcv_R zo_133 (by decide) g1) (Nat.le_of_ble_eq_true rfl) ?_
    refine h.mono (fun r m4 h => ?_)
    obtain ⟨v5, rfl, h⟩ := h
    refine ⟨_, rfl, ?_⟩
    refine (zq_if_eq (t := 36) dX11_clear_25 rfl).mpr ⟨fun c => ?_, fun c => ?_⟩
    · replace h := h.1 c
      refine (zq_iload_n dX11_clear_36 rfl).mpr ?_
      refine (zq_iload dX11_clear_37 rfl).mpr ?_
      refine (zq_iconst dX11_clear_39 (by decide)).mpr ?_
      refine (zq_iadd dX11_clear_40).mpr ?_
      refine (zq_iload_n dX11_clear_41 rfl).mpr ?_
      refine (zq_isub dX11_clear_42).mpr ?_
      refine (zq_max dX11_clear_43 mr_11_139).mpr ⟨(Nat.le_of_ble_eq_true rfl), ?_⟩
      refine (zq_istore_n dX11_clear_46 (by simp) rfl).mpr ?_
      refine (zq_iinc dX11_clear_47 rfl rfl).mpr ?_
      refine (zq_goto (t := 7) dX11_clear_50 rfl).mpr ?_
      exact h
    · replace h := h.2 c
      refine (zq_iload dX11_clear_28 rfl).mpr ?_
      refine (zq_iconst dX11_clear_30 (by decide)).mpr ?_
      refine (zq_iadd dX11_clear_31).mpr ?_
      refine (zq_istore_n dX11_clear_32 (by simp) rfl).mpr ?_
      refine (zq_goto (t := 47) dX11_clear_33 rfl).mpr ?_
      refine (zq_iinc dX11_clear_47 rfl rfl).mpr ?_
      refine (zq_goto (t := 7) dX11_clear_50 rfl).mpr ?_
      exact h
theorem bX11_find_0 {a0 : Nat} {a1 : Int} {a2 : Int} (h : zW xs xl d cX11_find 11 (some .int) false [] 5 [zR a0, zI a1, zI a2, zI (-1), zI 0] [] m Q) : zC xs xl (d + 1) 136 [zR a0, zI a1, zI a2] m Q := by
  refine zk_136 ?_
  refine (zq_iconst dX11_find_0 (by decide)).mpr ?_
  refine (zq_istore_n dX11_find_1 (by simp) rfl).mpr ?_
  refine (zq_iconst dX11_find_2 (by decide)).mpr ?_
  refine (zq_istore dX11_find_3 (by simp) rfl).mpr ?_
  exact h
theorem bX11_find_5 {a0 : Nat} {a1 : Int} {a2 : Int} {a3 : Int} {a4 : Int} (h : (mC m a0 = 12) ∧ (((mI m 705 a0) ≤ a4 → Q (.inl (some (zI a3))) m) ∧ (¬ ((mI m 705 a0) ≤ a4) → (mC m (mR m 706 a0) = 20) ∧ (0 ≤ a4 ∧ a4 < mN m (mR m 706 a0)) ∧ (((mA m (mR m 706 a0) (Int.toNat a4)) ≠ a1 → zW xs xl d cX11_find 11 (some .int) false [] 5 [zR a0, zI a1, zI a2, zI a3, zI (wr (a4 + 1))] [] m Q) ∧ (¬ ((mA m (mR m 706 a0) (Int.toNat a4)) ≠ a1) → ((a3 = (-1) → zW xs xl d cX11_find 11 (some .int) false [] 46 [zR a0, zI a1, zI a2, zI a3, zI a4] [] m Q) ∧ (¬ (a3 = (-1)) → (mC m (mR m 707 a0) = 20) ∧ (0 ≤ a4 ∧ a4 < mN m (mR m 707 a0)) ∧ (0 ≤ a3 ∧ a3 < mN m (mR m 707 a0)) ∧ (((mA m (mR m 707 a0) (Int.toNat a3)) ≤ (mA m (mR m 707 a0) (Int.toNat a4)) → zW xs xl d cX11_find 11 (some .int) false [] 5 [zR a0, zI a1, zI a2, zI a3, zI (wr (a4 + 1))] [] m Q) ∧ (¬ ((mA m (mR m 707 a0) (Int.toNat a3)) ≤ (mA m (mR m 707 a0) (Int.toNat a4))) → zW xs xl d cX11_find 11 (some .int) false [] 46 [zR a0, zI a1, zI a2, zI a3, zI a4] [] m Q))))))))) : zW xs xl d cX11_find 11 (some .int) false [] 5 [zR a0, zI a1, zI a2, zI a3, zI a4] [] m Q := by
  refine (zq_iload dX11_find_5 rfl).mpr ?_
  refine (zq_aload_n dX11_find_7 rfl).mpr ?_
  obtain ⟨g1, h⟩ := h
  refine (zq_getI2 (f := 705) (v := (mI m 705 a0)) dX11_find_8 fl_11_113 (by decide) rfl rfl (by first | rfl | simp only [zm_Is, zm_Rs, zm_As, zm_Os, zm_In0, zm_Rn0])).mpr ⟨g1, ?_⟩
  refine (zq_icmp_ge (t := 66) dX11_find_11 rfl).mpr ⟨fun c => ?_, fun c => ?_⟩
  · replace h := h.1 c
    refine (zq_iload_n dX11_find_66 rfl).mpr ?_
    exact (zq_iret dX11_find_67 rfl).mpr ⟨trivial, h⟩
  · replace h := h.2 c
    refine (zq_aload_n dX11_find_14 rfl).mpr ?_
    refine (zq_getR2 (f := 706) (v := (mR m 706 a0)) dX11_find_15 fl_11_9 (by decide) rfl rfl (by first | rfl | simp only [zm_Is, zm_Rs, zm_As, zm_Os, zm_In0, zm_Rn0])).mpr ⟨g1, ?_⟩
    refine (zq_iload dX11_find_18 rfl).mpr ?_
    obtain ⟨g2, h⟩ := h
    obtain ⟨g3, h⟩ := h
    refine (zq_iald2 (v := (mA m (mR m 706 a0) (Int.toNat a4))) dX11_find_20 (by first | rfl | simp only [zm_Is, zm_Rs, zm_As, zm_Os, zm_In0, zm_Rn0])).mpr ⟨⟨g2, g3⟩, ?_⟩
    refine (zq_iload_n dX11_find_21 rfl).mpr ?_
    refine (zq_icmp_ne (t := 60) dX11_find_22 rfl).mpr ⟨fun c => ?_, fun c => ?_⟩
    · replace h := h.1 c
      refine (zq_iinc dX11_find_60 rfl rfl).mpr ?_
      refine (zq_goto (t := 5) dX11_find_63 rfl).mpr ?_
      exact h
    · replace h := h.2 c
      refine (zq_iload_n dX11_find_25 rfl).mpr ?_
      refine (zq_iconst dX11_find_26 (by decide)).mpr ?_
      refine (zq_icmp_eq (t := 46) dX11_find_27 rfl).mpr ⟨fun c => ?_, fun c => ?_⟩
      · replace h := h.1 c
        exact h
      · replace h := h.2 c
        refine (zq_aload_n dX11_find_30 rfl).mpr ?_
        refine (zq_getR2 (f := 707) (v := (mR m 707 a0)) dX11_find_31 fl_11_15 (by decide) rfl rfl (by first | rfl | simp only [zm_Is, zm_Rs, zm_As, zm_Os, zm_In0, zm_Rn0])).mpr ⟨g1, ?_⟩
        refine (zq_iload dX11_find_34 rfl).mpr ?_
        obtain ⟨g4, h⟩ := h
        obtain ⟨g5, h⟩ := h
        refine (zq_iald2 (v := (mA m (mR m 707 a0) (Int.toNat a4))) dX11_find_36 (by first | rfl | simp only [zm_Is, zm_Rs, zm_As, zm_Os, zm_In0, zm_Rn0])).mpr ⟨⟨g4, g5⟩, ?_⟩
        refine (zq_aload_n dX11_find_37 rfl).mpr ?_
        refine (zq_getR2 (f := 707) (v := (mR m 707 a0)) dX11_find_38 fl_11_15 (by decide) rfl rfl (by first | rfl | simp only [zm_Is, zm_Rs, zm_As, zm_Os, zm_In0, zm_Rn0])).mpr ⟨g1, ?_⟩
        refine (zq_iload_n dX11_find_41 rfl).mpr ?_
        obtain ⟨g6, h⟩ := h
        refine (zq_iald2 (v := (mA m (mR m 707 a0) (Int.toNat a3))) dX11_find_42 (by first | rfl | simp only [zm_Is, zm_Rs, zm_As, zm_Os, zm_In0, zm_Rn0])).mpr ⟨⟨g4, g6⟩, ?_⟩
        refine (zq_icmp_ge (t := 60) dX11_find_43 rfl).mpr ⟨fun c => ?_, fun c => ?_⟩
        · replace h := h.1 c
          refine (zq_iinc dX11_find_60 rfl rfl).mpr ?_
          refine (zq_goto (t := 5) dX11_find_63 rfl).mpr ?_
          exact h
        · replace h := h.2 c
          exact h
theorem bX11_find_46 {a0 : Nat} {a1 : Int} {a2 : Int} {a3 : Int} {a4 : Int} (h : (mC m a0 = 12) ∧ zC xs xl d 134 [zR a0, zI a4, zI a2] m (fun r m1 => ∃ v2 : Int, r = .inl (some (zI v2)) ∧ ((v2 = (-1) → zW xs xl d cX11_find 11 (some .int) false [] 5 [zR a0, zI a1, zI a2, zI a3, zI (wr (a4 + 1))] [] m1 Q) ∧ (¬ (v2 = (-1)) → zW xs xl d cX11_find 11 (some .int) false [] 5 [zR a0, zI a1, zI a2, zI a4, zI (wr (a4 + 1))] [] m1 Q)))) : zW xs xl d cX11_find 11 (some .int) false [] 46 [zR a0, zI a1, zI a2, zI a3, zI a4] [] m Q := by
  refine (zq_aload_n dX11_find_46 rfl).mpr ?_
  refine (zq_iload dX11_find_47 rfl).mpr ?_
  refine (zq_iload_n dX11_find_49 rfl).mpr ?_
  obtain ⟨g3, h⟩ := h
  refine zq_virtualI (n := 2) dX11_find_50 mr_11_145 zn_134 rfl rfl rfl (zrcv_R zo_134 (by decide) g3) (Nat.le_of_ble_eq_true rfl) ?_
  refine h.mono (fun r m1 h => ?_)
  obtain ⟨v2, rfl, h⟩ := h
  refine ⟨_, rfl, ?_⟩
  refine (zq_iconst dX11_find_53 (by decide)).mpr ?_
  refine (zq_icmp_eq (t := 60) dX11_find_54 rfl).mpr ⟨fun c => ?_, fun c => ?_⟩
  · replace h := h.1 c
    refine (zq_iinc dX11_find_60 rfl rfl).mpr ?_
    refine (zq_goto (t := 5) dX11_find_63 rfl).mpr ?_
    exact h
  · replace h := h.2 c
    refine (zq_iload dX11_find_57 rfl).mpr ?_
    refine (zq_istore_n dX11_find_59 (by simp) rfl).mpr ?_
    refine (zq_iinc dX11_find_60 rfl rfl).mpr ?_
    refine (zq_goto (t := 5) dX11_find_63 rfl).mpr ?_
    exact h
theorem bX11_add_0 {a0 : Nat} {a1 : Int} {a2 : Int} {a3 : Int} (h : (mC m a0 = 12) ∧ (0 ≤ (mI m 705 a0) ∧ (mI m 705 a0) < mN m (mR m 706 a0)) ∧ (mC m (mR m 706 a0) = 20) ∧ (0 ≤ (mI m 705 a0) ∧ (mI m 705 a0) < mN m (mR m 707 a0)) ∧ (mC m (mR m 707 a0) = 20) ∧ (0 ≤ (mI m 705 a0) ∧ (mI m 705 a0) < mN m (mR m 708 a0)) ∧ (mC m (mR m 708 a0) = 20) ∧ (0 ≤ (mI m 705 a0) ∧ (mI m 705 a0) < mN m (mR m 709 a0)) ∧ (mC m (mR m 709 a0) = 20) ∧ Q (.inl (some (zI (wr ((wr ((mI m 705 a0) + 1)) - 1))))) (sI (sA (sA (sA (sA m (mR m 706 a0) (Int.toNat (mI m 705 a0)) a1) (mR m 707 a0) (Int.toNat (mI m 705 a0)) a2) (mR m 708 a0) (Int.toNat (mI m 705 a0)) a3) (mR m 709 a0) (Int.toNat (mI m 705 a0)) 0) 705 a0 (wr ((mI m 705 a0) + 1)))) : zC xs xl (d + 1) 137 [zR a0, zI a1, zI a2, zI a3] m Q := by
  refine zk_137 ?_
  refine (zq_aload_n dX11_add_0 rfl).mpr ?_
  obtain ⟨g1, h⟩ := h
  refine (zq_getR2 (f := 706) (v := (mR m 706 a0)) dX11_add_1 fl_11_9 (by decide) rfl rfl (by first | rfl | simp only [zm_Is, zm_Rs, zm_As, zm_Os, zm_In0, zm_Rn0])).mpr ⟨g1, ?_⟩
  refine (zq_aload_n dX11_add_4 rfl).mpr ?_
  refine (zq_getI2 (f := 705) (v := (mI m 705 a0)) dX11_add_5 fl_11_113 (by decide) rfl rfl (by first | rfl | simp only [zm_Is, zm_Rs, zm_As, zm_Os, zm_In0, zm_Rn0])).mpr ⟨g1, ?_⟩
  refine (zq_iload_n dX11_add_8 rfl).mpr ?_
  obtain ⟨g2, h⟩ := h
  obtain ⟨g3, h⟩ := h
  refine (zq_iast dX11_add_9).mpr ⟨⟨g3, g2⟩, ?_⟩
  refine (zq_aload_n dX11_add_10 rfl).mpr ?_
  refine (zq_getR2 (f := 707) (v := (mR m 707 a0)) dX11_add_11 fl_11_15 (by decide) rfl rfl (by first | rfl | simp only [zm_Is, zm_Rs, zm_As, zm_Os, zm_In0, zm_Rn0])).mpr ⟨g1, ?_⟩
  refine (zq_aload_n dX11_add_14 rfl).mpr ?_
  refine (zq_getI2 (f := 705) (v := (mI m 705 a0)) dX11_add_15 fl_11_113 (by decide) rfl rfl (by first | rfl | simp only [zm_Is, zm_Rs, zm_As, zm_Os, zm_In0, zm_Rn0])).mpr ⟨g1, ?_⟩
  refine (zq_iload_n dX11_add_18 rfl).mpr ?_
  obtain ⟨g4, h⟩ := h
  obtain ⟨g5, h⟩ := h
  refine (zq_iast dX11_add_19).mpr ⟨⟨g5, g4⟩, ?_⟩
  refine (zq_aload_n dX11_add_20 rfl).mpr ?_
  refine (zq_getR2 (f := 708) (v := (mR m 708 a0)) dX11_add_21 fl_11_18 (by decide) rfl rfl (by first | rfl | simp only [zm_Is, zm_Rs, zm_As, zm_Os, zm_In0, zm_Rn0])).mpr ⟨g1, ?_⟩
  refine (zq_aload_n dX11_add_24 rfl).mpr ?_
  refine (zq_getI2 (f := 705) (v := (mI m 705 a0)) dX11_add_25 fl_11_113 (by decide) rfl rfl (by first | rfl | simp only [zm_Is, zm_Rs, zm_As, zm_Os, zm_In0, zm_Rn0])).mpr ⟨g1, ?_⟩
  refine (zq_iload_n dX11_add_28 rfl).mpr ?_
  obtain ⟨g6, h⟩ := h
  obtain ⟨g7, h⟩ := h
  refine (zq_iast dX11_add_29).mpr ⟨⟨g7, g6⟩, ?_⟩
  refine (zq_aload_n dX11_add_30 rfl).mpr ?_
  refine (zq_getR2 (f := 709) (v := (mR m 709 a0)) dX11_add_31 fl_11_21 (by decide) rfl rfl (by first | rfl | simp only [zm_Is, zm_Rs, zm_As, zm_Os, zm_In0, zm_Rn0])).mpr ⟨g1, ?_⟩
  refine (zq_aload_n dX11_add_34 rfl).mpr ?_
  refine (zq_getI2 (f := 705) (v := (mI m 705 a0)) dX11_add_35 fl_11_113 (by decide) rfl rfl (by first | rfl | simp only [zm_Is, zm_Rs, zm_As, zm_Os, zm_In0, zm_Rn0])).mpr ⟨g1, ?_⟩
  refine (zq_iconst dX11_add_38 (by decide)).mpr ?_
  obtain ⟨g8, h⟩ := h
  obtain ⟨g9, h⟩ := h
  refine (zq_iast dX11_add_39).mpr ⟨⟨g9, g8⟩, ?_⟩
  refine (zq_aload_n dX11_add_40 rfl).mpr ?_
  refine (zq_dupR dX11_add_41).mpr ?_
  refine (zq_getI2 (f := 705) (v := (mI m 705 a0)) dX11_add_42 fl_11_113 (by decide) rfl rfl (by first | rfl | simp only [zm_Is, zm_Rs, zm_As, zm_Os, zm_In0, zm_Rn0])).mpr ⟨g1, ?_⟩
  refine (zq_iconst dX11_add_45 (by decide)).mpr ?_
  refine (zq_iadd dX11_add_46).mpr ?_
  refine (zq_putI (f := 705) dX11_add_47 fl_11_113 (by decide) rfl rfl rfl).mpr ⟨g1, ?_⟩
  refine (zq_aload_n dX11_add_50 rfl).mpr ?_
  refine (zq_getI2 (f := 705) (v := (wr ((mI m 705 a0) + 1))) dX11_add_51 fl_11_113 (by decide) rfl rfl (by first | rfl | simp only [zm_Is, zm_Rs, zm_As, zm_Os, zm_In0, zm_Rn0])).mpr ⟨g1, ?_⟩
  refine (zq_iconst dX11_add_54 (by decide)).mpr ?_
  refine (zq_isub dX11_add_55).mpr ?_
  exact (zq_iret dX11_add_56 rfl).mpr ⟨trivial, h⟩
theorem bX11_addKnot_0 {a0 : Nat} {a1 : Int} {a2 : Int} (h : (mC m a0 = 12) ∧ (mC m (mR m 709 a0) = 20) ∧ (0 ≤ a1 ∧ a1 < mN m (mR m 709 a0)) ∧ (0 ≤ (wr ((wr (8 * a1)) + (mA m (mR m 709 a0) (Int.toNat a1)))) ∧ (wr ((wr (8 * a1)) + (mA m (mR m 709 a0) (Int.toNat a1)))) < mN m (mR m 710 a0)) ∧ (mC m (mR m 710 a0) = 20) ∧ Q (.inl none) (sA (sA m (mR m 710 a0) (Int.toNat (wr ((wr (8 * a1)) + (mA m (mR m 709 a0) (Int.toNat a1))))) a2) (mR m 709 a0) (Int.toNat a1) (wr ((mA (sA m (mR m 710 a0) (Int.toNat (wr ((wr (8 * a1)) + (mA m (mR m 709 a0) (Int.toNat a1))))) a2) (mR m 709 a0) (Int.toNat a1)) + 1)))) : zC xs xl (d + 1) 138 [zR a0, zI a1, zI a2] m Q := by
  refine zk_138 ?_
  refine (zq_aload_n dX11_addKnot_0 rfl).mpr ?_
  obtain ⟨g1, h⟩ := h
  refine (zq_getR2 (f := 710) (v := (mR m 710 a0)) dX11_addKnot_1 fl_11_24 (by decide) rfl rfl (by first | rfl | simp only [zm_Is, zm_Rs, zm_As, zm_Os, zm_In0, zm_Rn0])).mpr ⟨g1, ?_⟩
  refine (zq_bipush dX11_addKnot_4 (by decide)).mpr ?_
  refine (zq_iload_n dX11_addKnot_6 rfl).mpr ?_
  refine (zq_imul dX11_addKnot_7).mpr ?_
  refine (zq_aload_n dX11_addKnot_8 rfl).mpr ?_
  refine (zq_getR2 (f := 709) (v := (mR m 709 a0)) dX11_addKnot_9 fl_11_21 (by decide) rfl rfl (by first | rfl | simp only [zm_Is, zm_Rs, zm_As, zm_Os, zm_In0, zm_Rn0])).mpr ⟨g1, ?_⟩
  refine (zq_iload_n dX11_addKnot_12 rfl).mpr ?_
  obtain ⟨g2, h⟩ := h
  obtain ⟨g3, h⟩ := h
  refine (zq_iald2 (v := (mA m (mR m 709 a0) (Int.toNat a1))) dX11_addKnot_13 (by first | rfl | simp only [zm_Is, zm_Rs, zm_As, zm_Os, zm_In0, zm_Rn0])).mpr ⟨⟨g2, g3⟩, ?_⟩
  refine (zq_iadd dX11_addKnot_14).mpr ?_
  refine (zq_iload_n dX11_addKnot_15 rfl).mpr ?_
  obtain ⟨g4, h⟩ := h
  obtain ⟨g5, h⟩ := h
  refine (zq_iast dX11_addKnot_16).mpr ⟨⟨g5, g4⟩, ?_⟩
  refine (zq_aload_n dX11_addKnot_17 rfl).mpr ?_
  refine (zq_getR2 (f := 709) (v := (mR m 709 a0)) dX11_addKnot_18 fl_11_21 (by decide) rfl rfl (by first | rfl | simp only [zm_Is, zm_Rs, zm_As, zm_Os, zm_In0, zm_Rn0])).mpr ⟨g1, ?_⟩
  refine (zq_iload_n dX11_addKnot_21 rfl).mpr ?_
  refine (zq_dup2IR dX11_addKnot_22).mpr ?_
  refine (zq_iald2 (v := (mA (sA m (mR m 710 a0) (Int.toNat (wr ((wr (8 * a1)) + (mA m (mR m 709 a0) (Int.toNat a1))))) a2) (mR m 709 a0) (Int.toNat a1))) dX11_addKnot_23 (by first | rfl | simp only [zm_Is, zm_Rs, zm_As, zm_Os, zm_In0, zm_Rn0])).mpr ⟨⟨g2, g3⟩, ?_⟩
  refine (zq_iconst dX11_addKnot_24 (by decide)).mpr ?_
  refine (zq_iadd dX11_addKnot_25).mpr ?_
  refine (zq_iast dX11_addKnot_26).mpr ⟨⟨g2, g3⟩, ?_⟩
  exact (zq_ret dX11_addKnot_27 rfl).mpr h
theorem bX11_cutOut_0 {a0 : Nat} {a1 : Int} {a2 : Int} {a3 : Int} (h : (mC m a0 = 12) ∧ (mC m (mR m 707 a0) = 20) ∧ (0 ≤ a1 ∧ a1 < mN m (mR m 707 a0)) ∧ (((wr ((wr ((mA m (mR m 707 a0) (Int.toNat a1)) - a2)) - a3)) < 10 → zW xs xl d cX11_cutOut 11 (none) false [] 122 [zR a0, zI a1, zI a2, zI a3, zI (wr ((wr ((mA m (mR m 707 a0) (Int.toNat a1)) - a2)) - a3)), zU, zU, zU] [] (sI m 738 a0 (wr ((mI m 738 a0) + (wr ((wr ((mA m (mR m 707 a0) (Int.toNat a1)) - a2)) - a3))))) Q) ∧ (¬ ((wr ((wr ((mA m (mR m 707 a0) (Int.toNat a1)) - a2)) - a3)) < 10) → ((60 ≤ (mI m 705 a0) → zW xs xl d cX11_cutOut 11 (none) false [] 122 [zR a0, zI a1, zI a2, zI a3, zI (wr ((wr ((mA m (mR m 707 a0) (Int.toNat a1)) - a2)) - a3)), zU, zU, zU] [] (sI m 738 a0 (wr ((mI m 738 a0) + (wr ((wr ((mA m (mR m 707 a0) (Int.toNat a1)) - a2)) - a3))))) Q) ∧ (¬ (60 ≤ (mI m 705 a0)) → (mC m (mR m 706 a0) = 20) ∧ (0 ≤ a1 ∧ a1 < mN m (mR m 706 a0)) ∧ (mC m (mR m 708 a0) = 20) ∧ (0 ≤ a1 ∧ a1 < mN m (mR m 708 a0)) ∧ zC xs xl d 137 [zR a0, zI (mA m (mR m 706 a0) (Int.toNat a1)), zI (wr ((wr ((mA m (mR m 707 a0) (Int.toNat a1)) - a2)) - a3)), zI (mA m (mR m 708 a0) (Int.toNat a1))] m (fun r m8 => ∃ v9 : Int, r = .inl (some (zI v9)) ∧ zW xs xl d cX11_cutOut 11 (none) false [] 51 [zR a0, zI a1, zI a2, zI a3, zI (wr ((wr ((mA m (mR m 707 a0) (Int.toNat a1)) - a2)) - a3)), zI v9, zI 0, zU] [] m8 Q)))))) : zC xs xl (d + 1) 139 [zR a0, zI a1, zI a2, zI a3] m Q := by
  refine zk_139 ?_
  refine (zq_aload_n dX11_cutOut_0 rfl).mpr ?_
  obtain ⟨g1, h⟩ := h
  refine (zq_getR2 (f := 707) (v := (mR m 707 a0)) dX11_cutOut_1 fl_11_15 (by decide) rfl rfl (by first | rfl | simp only [zm_Is, zm_Rs, zm_As, zm_Os, zm_In0, zm_Rn0])).mpr ⟨g1, ?_⟩
  refine (zq_iload_n dX11_cutOut_4 rfl).mpr ?_
  obtain ⟨g2, h⟩ := h
  obtain ⟨g3, h⟩ := h
  refine (zq_iald2 (v := (mA m (mR m 707 a0) (Int.toNat a1))) dX11_cutOut_5 (by first | rfl | simp only [zm_Is, zm_Rs, zm_As, zm_Os, zm_In0, zm_Rn0])).mpr ⟨⟨g2, g3⟩, ?_⟩
  refine (zq_iload_n dX11_cutOut_6 rfl).mpr ?_
  refine (zq_isub dX11_cutOut_7).mpr ?_
  refine (zq_iload_n dX11_cutOut_8 rfl).mpr ?_
  refine (zq_isub dX11_cutOut_9).mpr ?_
  refine (zq_istore dX11_cutOut_10 (by simp) rfl).mpr ?_
  refine (zq_iload dX11_cutOut_12 rfl).mpr ?_
  refine (zq_bipush dX11_cutOut_14 (by decide)).mpr ?_
  refine (zq_icmp_lt (t := 111) dX11_cutOut_16 rfl).mpr ⟨fun c => ?_, fun c => ?_⟩
  · replace h := h.1 c
    refine (zq_aload_n dX11_cutOut_111 rfl).mpr ?_
    refine (zq_dupR dX11_cutOut_112).mpr ?_
    refine (zq_getI2 (f := 738) (v := (mI m 738 a0)) dX11_cutOut_113 fl_11_125 (by decide) rfl rfl (by first | rfl | simp only [zm_Is, zm_Rs, zm_As, zm_Os, zm_In0, zm_Rn0])).mpr ⟨g1, ?_⟩
    refine (zq_iload dX11_cutOut_116 rfl).mpr ?_
    refine (zq_iadd dX11_cutOut_118).mpr ?_
    refine (zq_putI (f := 738) dX11_cutOut_119 fl_11_125 (by decide) rfl rfl rfl).mpr ⟨g1, ?_⟩
    exact h
  · replace h := h.2 c
    refine (zq_aload_n dX11_cutOut_19 rfl).mpr ?_
    refine (zq_getI2 (f := 705) (v := (mI m 705 a0)) dX11_cutOut_20 fl_11_113 (by decide) rfl rfl (by first | rfl | simp only [zm_Is, zm_Rs, zm_As, zm_Os, zm_In0, zm_Rn0])).mpr ⟨g1, ?_⟩
    refine (zq_bipush dX11_cutOut_23 (by decide)).mpr ?_
    refine (zq_icmp_ge (t := 111) dX11_cutOut_25 rfl).mpr ⟨fun c => ?_, fun c => ?_⟩
    · replace h := h.1 c
      refine (zq_aload_n dX11_cutOut_111 rfl).mpr ?_
      refine (zq_dupR dX11_cutOut_112).mpr ?_
      refine (zq_getI2 (f := 738) (v := (mI m 738 a0)) dX11_cutOut_113 fl_11_125 (by decide) rfl rfl (by first | rfl | simp only [zm_Is, zm_Rs, zm_As, zm_Os, zm_In0, zm_Rn0])).mpr ⟨g1, ?_⟩
      refine (zq_iload dX11_cutOut_116 rfl).mpr ?_
      refine (zq_iadd dX11_cutOut_118).mpr ?_
      refine (zq_putI (f := 738) dX11_cutOut_119 fl_11_125 (by decide) rfl rfl rfl).mpr ⟨g1, ?_⟩
      exact h
    · replace h := h.2 c
      refine (zq_aload_n dX11_cutOut_28 rfl).mpr ?_
      refine (zq_aload_n dX11_cutOut_29 rfl).mpr ?_
      refine (zq_getR2 (f := 706) (v := (mR m 706 a0)) dX11_cutOut_30 fl_11_9 (by decide) rfl rfl (by first | rfl | simp only [zm_Is, zm_Rs, zm_As, zm_Os, zm_In0, zm_Rn0])).mpr ⟨g1, ?_⟩
      refine (zq_iload_n dX11_cutOut_33 rfl).mpr ?_
      obtain ⟨g4, h⟩ := h
      obtain ⟨g5, h⟩ := h
      refine (zq_iald2 (v := (mA m (mR m 706 a0) (Int.toNat a1))) dX11_cutOut_34 (by first | rfl | simp only [zm_Is, zm_Rs, zm_As, zm_Os, zm_In0, zm_Rn0])).mpr ⟨⟨g4, g5⟩, ?_⟩
      refine (zq_iload dX11_cutOut_35 rfl).mpr ?_
      refine (zq_aload_n dX11_cutOut_37 rfl).mpr ?_
      refine (zq_getR2 (f := 708) (v := (mR m 708 a0)) dX11_cutOut_38 fl_11_18 (by decide) rfl rfl (by first | rfl | simp only [zm_Is, zm_Rs, zm_As, zm_Os, zm_In0, zm_Rn0])).mpr ⟨g1, ?_⟩
      refine (zq_iload_n dX11_cutOut_41 rfl).mpr ?_
      obtain ⟨g6, h⟩ := h
      obtain ⟨g7, h⟩ := h
      refine (zq_iald2 (v := (mA m (mR m 708 a0) (Int.toNat a1))) dX11_cutOut_42 (by first | rfl | simp only [zm_Is, zm_Rs, zm_As, zm_Os, zm_In0, zm_Rn0])).mpr ⟨⟨g6, g7⟩, ?_⟩
      refine zq_virtualI (n := 3) dX11_cutOut_43 mr_11_148 zn_137 rfl rfl rfl (zrcv_R zo_137 (by decide) g1) (Nat.le_of_ble_eq_true rfl) ?_
      refine h.mono (fun r m8 h => ?_)
      obtain ⟨v9, rfl, h⟩ := h
      refine ⟨_, rfl, ?_⟩
      refine (zq_istore dX11_cutOut_46 (by simp) rfl).mpr ?_
      refine (zq_iconst dX11_cutOut_48 (by decide)).mpr ?_
      refine (zq_istore dX11_cutOut_49 (by simp) rfl).mpr ?_
      exact h
theorem bX11_cutOut_51 {a0 : Nat} {a1 : Int} {a2 : Int} {a3 : Int} {a4 : Int} {a5 : Int} {a6 : Int} {a7 : zV} (h : (mC m a0 = 12) ∧ (mC m (mR m 709 a0) = 20) ∧ (0 ≤ a1 ∧ a1 < mN m (mR m 709 a0)) ∧ (((mA m (mR m 709 a0) (Int.toNat a1)) ≤ a6 → zW xs xl d cX11_cutOut 11 (none) false [] 122 [zR a0, zI a1, zI a2, zI a3, zI a4, zI a5, zI a6, a7] [] m Q) ∧ (¬ ((mA m (mR m 709 a0) (Int.toNat a1)) ≤ a6) → (mC m (mR m 710 a0) = 20) ∧ (0 ≤ (wr ((wr (8 * a1)) + a6)) ∧ (wr ((wr (8 * a1)) + a6)) < mN m (mR m 710 a0)) ∧ (((mA m (mR m 710 a0) (Int.toNat (wr ((wr (8 * a1)) + a6)))) < (wr (a2 + a3)) → zW xs xl d cX11_cutOut 11 (none) false [] 51 [zR a0, zI a1, zI a2, zI a3, zI a4, zI a5, zI (wr (a6 + 1)), a7] [] m Q) ∧ (¬ ((mA m (mR m 710 a0) (Int.toNat (wr ((wr (8 * a1)) + a6)))) < (wr (a2 + a3))) → zC xs xl d 138 [zR a0, zI a5, zI (wr ((wr ((mA m (mR m 710 a0) (Int.toNat (wr ((wr (8 * a1)) + a6)))) - a2)) - a3))] m (fun r m6 => r = .inl none ∧ zW xs xl d cX11_cutOut 11 (none) false [] 51 [zR a0, zI a1, zI a2, zI a3, zI a4, zI a5, zI (wr (a6 + 1)), a7] [] m6 Q)))))) : zW xs xl d cX11_cutOut 11 (none) false [] 51 [zR a0, zI a1, zI a2, zI a3, zI a4, zI a5, zI a6, a7] [] m Q := by
  refine (zq_iload dX11_cutOut_51 rfl).mpr ?_
  refine (zq_aload_n dX11_cutOut_53 rfl).mpr ?_
  obtain ⟨g1, h⟩ := h
  refine (zq_getR2 (f := 709) (v := (mR m 709 a0)) dX11_cutOut_54 fl_11_21 (by decide) rfl rfl (by first | rfl | simp only [zm_Is, zm_Rs, zm_As, zm_Os, zm_In0, zm_Rn0])).mpr ⟨g1, ?_⟩
  refine (zq_iload_n dX11_cutOut_57 rfl).mpr ?_
  obtain ⟨g2, h⟩ := h
  obtain ⟨g3, h⟩ := h
  refine (zq_iald2 (v := (mA m (mR m 709 a0) (Int.toNat a1))) dX11_cutOut_58 (by first | rfl | simp only [zm_Is, zm_Rs, zm_As, zm_Os, zm_In0, zm_Rn0])).mpr ⟨⟨g2, g3⟩, ?_⟩
  refine (zq_icmp_ge (t := 108) dX11_cutOut_59 rfl).mpr ⟨fun c => ?_, fun c => ?_⟩
  · replace h := h.1 c
    refine (zq_goto (t := 122) dX11_cutOut_108 rfl).mpr ?_
    exact h
  · replace h := h.2 c
    refine (zq_aload_n dX11_cutOut_62 rfl).mpr ?_
    refine (zq_getR2 (f := 710) (v := (mR m 710 a0)) dX11_cutOut_63 fl_11_24 (by decide) rfl rfl (by first | rfl | simp only [zm_Is, zm_Rs, zm_As, zm_Os, zm_In0, zm_Rn0])).mpr ⟨g1, ?_⟩
    refine (zq_bipush dX11_cutOut_66 (by decide)).mpr ?_
    refine (zq_iload_n dX11_cutOut_68 rfl).mpr ?_
    refine (zq_imul dX11_cutOut_69).mpr ?_
    refine (zq_iload dX11_cutOut_70 rfl).mpr ?_
    refine (zq_iadd dX11_cutOut_72).mpr ?_
    obtain ⟨g4, h⟩ := h
    obtain ⟨g5, h⟩ := h
    refine (zq_iald2 (v := (mA m (mR m 710 a0) (Int.toNat (wr ((wr (8 * a1)) + a6))))) dX11_cutOut_73 (by first | rfl | simp only [zm_Is, zm_Rs, zm_As, zm_Os, zm_In0, zm_Rn0])).mpr ⟨⟨g4, g5⟩, ?_⟩
    refine (zq_iload_n dX11_cutOut_74 rfl).mpr ?_
    refine (zq_iload_n dX11_cutOut_75 rfl).mpr ?_
    refine (zq_iadd dX11_cutOut_76).mpr ?_
    refine (zq_icmp_lt (t := 102) dX11_cutOut_77 rfl).mpr ⟨fun c => ?_, fun c => ?_⟩
    · replace h := h.1 c
      refine (zq_iinc dX11_cutOut_102 rfl rfl).mpr ?_
      refine (zq_goto (t := 51) dX11_cutOut_105 rfl).mpr ?_
      exact h
    · replace h := h.2 c
      refine (zq_aload_n dX11_cutOut_80 rfl).mpr ?_
      refine (zq_iload dX11_cutOut_81 rfl).mpr ?_
      refine (zq_aload_n dX11_cutOut_83 rfl).mpr ?_
      refine (zq_getR2 (f := 710) (v := (mR m 710 a0)) dX11_cutOut_84 fl_11_24 (by decide) rfl rfl (by first | rfl | simp only [zm_Is, zm_Rs, zm_As, zm_Os, zm_In0, zm_Rn0])).mpr ⟨g1, ?_⟩
      refine (zq_bipush dX11_cutOut_87 (by decide)).mpr ?_
      refine (zq_iload_n dX11_cutOut_89 rfl).mpr ?_
      refine (zq_imul dX11_cutOut_90).mpr ?_
      refine (zq_iload dX11_cutOut_91 rfl).mpr ?_
      refine (zq_iadd dX11_cutOut_93).mpr ?_
      refine (zq_iald2 (v := (mA m (mR m 710 a0) (Int.toNat (wr ((wr (8 * a1)) + a6))))) dX11_cutOut_94 (by first | rfl | simp only [zm_Is, zm_Rs, zm_As, zm_Os, zm_In0, zm_Rn0])).mpr ⟨⟨g4, g5⟩, ?_⟩
      refine (zq_iload_n dX11_cutOut_95 rfl).mpr ?_
      refine (zq_isub dX11_cutOut_96).mpr ?_
      refine (zq_iload_n dX11_cutOut_97 rfl).mpr ?_
      refine (zq_isub dX11_cutOut_98).mpr ?_
      refine zq_virtualV (n := 2) dX11_cutOut_99 mr_11_152 zn_138 rfl rfl rfl (zrcv_R zo_138 (by decide) g1) (Nat.le_of_ble_eq_true rfl) ?_
      refine h.mono (fun r m6 h => ?_)
      obtain ⟨rfl, h⟩ := h
      refine ⟨rfl, ?_⟩
      refine (zq_iinc dX11_cutOut_102 rfl rfl).mpr ?_
      refine (zq_goto (t := 51) dX11_cutOut_105 rfl).mpr ?_
      exact h
theorem bX11_cutOut_122 {a0 : Nat} {a1 : Int} {a2 : Int} {a3 : Int} {a4 : Int} {a5 : zV} {a6 : zV} {a7 : zV} (h : (mC m a0 = 12) ∧ (0 ≤ a1 ∧ a1 < mN m (mR m 707 a0)) ∧ (mC m (mR m 707 a0) = 20) ∧ ((10 ≤ a2 → zW xs xl d cX11_cutOut 11 (none) false [] 158 [zR a0, zI a1, zI a2, zI a3, zI a4, zI 0, zI 0, a7] [] (sA m (mR m 707 a0) (Int.toNat a1) a2) Q) ∧ (¬ (10 ≤ a2) → zW xs xl d cX11_cutOut 11 (none) false [] 158 [zR a0, zI a1, zI a2, zI a3, zI a4, zI 0, zI 0, a7] [] (sA (sI (sA m (mR m 707 a0) (Int.toNat a1) a2) 738 a0 (wr ((mI m 738 a0) + a2))) (mR m 707 a0) (Int.toNat a1) 0) Q))) : zW xs xl d cX11_cutOut 11 (none) false [] 122 [zR a0, zI a1, zI a2, zI a3, zI a4, a5, a6, a7] [] m Q := by
  refine (zq_aload_n dX11_cutOut_122 rfl).mpr ?_
  obtain ⟨g1, h⟩ := h
  refine (zq_getR2 (f := 707) (v := (mR m 707 a0)) dX11_cutOut_123 fl_11_15 (by decide) rfl rfl (by first | rfl | simp only [zm_Is, zm_Rs, zm_As, zm_Os, zm_In0, zm_Rn0])).mpr ⟨g1, ?_⟩
  refine (zq_iload_n dX11_cutOut_126 rfl).mpr ?_
  refine (zq_iload_n dX11_cutOut_127 rfl).mpr ?_
  obtain ⟨g2, h⟩ := h
  obtain ⟨g3, h⟩ := h
  refine (zq_iast dX11_cutOut_128).mpr ⟨⟨g3, g2⟩, ?_⟩
  refine (zq_iload_n dX11_cutOut_129 rfl).mpr ?_
  refine (zq_bipush dX11_cutOut_130 (by decide)).mpr ?_
  refine (zq_icmp_ge (t := 152) dX11_cutOut_132 rfl).mpr ⟨fun c => ?_, fun c => ?_⟩
  · replace h := h.1 c
    refine (zq_iconst dX11_cutOut_152 (by decide)).mpr ?_
    refine (zq_istore dX11_cutOut_153 (by simp) rfl).mpr ?_
    refine (zq_iconst dX11_cutOut_155 (by decide)).mpr ?_
    refine (zq_istore dX11_cutOut_156 (by simp) rfl).mpr ?_
    exact h
  · replace h := h.2 c
    refine (zq_aload_n dX11_cutOut_135 rfl).mpr ?_
    refine (zq_dupR dX11_cutOut_136).mpr ?_
    refine (zq_getI2 (f := 738) (v := (mI m 738 a0)) dX11_cutOut_137 fl_11_125 (by decide) rfl rfl (by first | rfl | simp only [zm_Is, zm_Rs, zm_As, zm_Os, zm_In0, zm_Rn0])).mpr ⟨g1, ?_⟩
    refine (zq_iload_n dX11_cutOut_140 rfl).mpr ?_
    refine (zq_iadd dX11_cutOut_141).mpr ?_
    refine (zq_putI (f := 738) dX11_cutOut_142 fl_11_125 (by decide) rfl rfl rfl).mpr ⟨g1, ?_⟩
    refine (zq_aload_n dX11_cutOut_145 rfl).mpr ?_
    refine (zq_getR2 (f := 707) (v := (mR m 707 a0)) dX11_cutOut_146 fl_11_15 (by decide) rfl rfl (by first | rfl | simp only [zm_Is, zm_Rs, zm_As, zm_Os, zm_In0, zm_Rn0])).mpr ⟨g1, ?_⟩
    refine (zq_iload_n dX11_cutOut_149 rfl).mpr ?_
    refine (zq_iconst dX11_cutOut_150 (by decide)).mpr ?_
    refine (zq_iast dX11_cutOut_151).mpr ⟨⟨g3, g2⟩, ?_⟩
    refine (zq_iconst dX11_cutOut_152 (by decide)).mpr ?_
    refine (zq_istore dX11_cutOut_153 (by simp) rfl).mpr ?_
    refine (zq_iconst dX11_cutOut_155 (by decide)).mpr ?_
    refine (zq_istore dX11_cutOut_156 (by simp) rfl).mpr ?_
    exact h
theorem bX11_cutOut_158 {a0 : Nat} {a1 : Int} {a2 : Int} {a3 : Int} {a4 : Int} {a5 : Int} {a6 : Int} {a7 : zV} (h : (mC m a0 = 12) ∧ (mC m (mR m 709 a0) = 20) ∧ (0 ≤ a1 ∧ a1 < mN m (mR m 709 a0)) ∧ (((mA m (mR m 709 a0) (Int.toNat a1)) ≤ a6 → Q (.inl none) (sA m (mR m 709 a0) (Int.toNat a1) a5)) ∧ (¬ ((mA m (mR m 709 a0) (Int.toNat a1)) ≤ a6) → (mC m (mR m 710 a0) = 20) ∧ (0 ≤ (wr ((wr (8 * a1)) + a6)) ∧ (wr ((wr (8 * a1)) + a6)) < mN m (mR m 710 a0)) ∧ (mC m (mR m 707 a0) = 20) ∧ (0 ≤ a1 ∧ a1 < mN m (mR m 707 a0)) ∧ (((mA m (mR m 710 a0) (Int.toNat (wr ((wr (8 * a1)) + a6)))) < (mA m (mR m 707 a0) (Int.toNat a1)) → (0 ≤ (wr ((wr (8 * a1)) + a5)) ∧ (wr ((wr (8 * a1)) + a5)) < mN m (mR m 710 a0)) ∧ zW xs xl d cX11_cutOut 11 (none) false [] 158 [zR a0, zI a1, zI a2, zI a3, zI a4, zI (wr (a5 + 1)), zI (wr (a6 + 1)), zI (mA m (mR m 710 a0) (Int.toNat (wr ((wr (8 * a1)) + a6))))] [] (sA m (mR m 710 a0) (Int.toNat (wr ((wr (8 * a1)) + a5))) (mA m (mR m 710 a0) (Int.toNat (wr ((wr (8 * a1)) + a6))))) Q) ∧ (¬ ((mA m (mR m 710 a0) (Int.toNat (wr ((wr (8 * a1)) + a6)))) < (mA m (mR m 707 a0) (Int.toNat a1))) → zW xs xl d cX11_cutOut 11 (none) false [] 158 [zR a0, zI a1, zI a2, zI a3, zI a4, zI a5, zI (wr (a6 + 1)), zI (mA m (mR m 710 a0) (Int.toNat (wr ((wr (8 * a1)) + a6))))] [] m Q))))) : zW xs xl d cX11_cutOut 11 (none) false [] 158 [zR a0, zI a1, zI a2, zI a3, zI a4, zI a5, zI a6, a7] [] m Q := by
  refine (zq_iload dX11_cutOut_158 rfl).mpr ?_
  refine (zq_aload_n dX11_cutOut_160 rfl).mpr ?_
  obtain ⟨g1, h⟩ := h
  refine (zq_getR2 (f := 709) (v := (mR m 709 a0)) dX11_cutOut_161 fl_11_21 (by decide) rfl rfl (by first | rfl | simp only [zm_Is, zm_Rs, zm_As, zm_Os, zm_In0, zm_Rn0])).mpr ⟨g1, ?_⟩
  refine (zq_iload_n dX11_cutOut_164 rfl).mpr ?_
  obtain ⟨g2, h⟩ := h
  obtain ⟨g3, h⟩ := h
  refine (zq_iald2 (v := (mA m (mR m 709 a0) (Int.toNat a1))) dX11_cutOut_165 (by first | rfl | simp only [zm_Is, zm_Rs, zm_As, zm_Os, zm_In0, zm_Rn0])).mpr ⟨⟨g2, g3⟩, ?_⟩
  refine (zq_icmp_ge (t := 220) dX11_cutOut_166 rfl).mpr ⟨fun c => ?_, fun c => ?_⟩
  · replace h := h.1 c
    refine (zq_aload_n dX11_cutOut_220 rfl).mpr ?_
    refine (zq_getR2 (f := 709) (v := (mR m 709 a0)) dX11_cutOut_221 fl_11_21 (by decide) rfl rfl (by first | rfl | simp only [zm_Is, zm_Rs, zm_As, zm_Os, zm_In0, zm_Rn0])).mpr ⟨g1, ?_⟩
    refine (zq_iload_n dX11_cutOut_224 rfl).mpr ?_
    refine (zq_iload dX11_cutOut_225 rfl).mpr ?_
    refine (zq_iast dX11_cutOut_227).mpr ⟨⟨g2, g3⟩, ?_⟩
    exact (zq_ret dX11_cutOut_228 rfl).mpr h
  · replace h := h.2 c
    refine (zq_aload_n dX11_cutOut_169 rfl).mpr ?_
    refine (zq_getR2 (f := 710) (v := (mR m 710 a0)) dX11_cutOut_170 fl_11_24 (by decide) rfl rfl (by first | rfl | simp only [zm_Is, zm_Rs, zm_As, zm_Os, zm_In0, zm_Rn0])).mpr ⟨g1, ?_⟩
    refine (zq_bipush dX11_cutOut_173 (by decide)).mpr ?_
    refine (zq_iload_n dX11_cutOut_175 rfl).mpr ?_
    refine (zq_imul dX11_cutOut_176).mpr ?_
    refine (zq_iload dX11_cutOut_177 rfl).mpr ?_
    refine (zq_iadd dX11_cutOut_179).mpr ?_
    obtain ⟨g4, h⟩ := h
    obtain ⟨g5, h⟩ := h
    refine (zq_iald2 (v := (mA m (mR m 710 a0) (Int.toNat (wr ((wr (8 * a1)) + a6))))) dX11_cutOut_180 (by first | rfl | simp only [zm_Is, zm_Rs, zm_As, zm_Os, zm_In0, zm_Rn0])).mpr ⟨⟨g4, g5⟩, ?_⟩
    refine (zq_istore dX11_cutOut_181 (by simp) rfl).mpr ?_
    refine (zq_iload dX11_cutOut_183 rfl).mpr ?_
    refine (zq_aload_n dX11_cutOut_185 rfl).mpr ?_
    refine (zq_getR2 (f := 707) (v := (mR m 707 a0)) dX11_cutOut_186 fl_11_15 (by decide) rfl rfl (by first | rfl | simp only [zm_Is, zm_Rs, zm_As, zm_Os, zm_In0, zm_Rn0])).mpr ⟨g1, ?_⟩
    refine (zq_iload_n dX11_cutOut_189 rfl).mpr ?_
    obtain ⟨g6, h⟩ := h
    obtain ⟨g7, h⟩ := h
    refine (zq_iald2 (v := (mA m (mR m 707 a0) (Int.toNat a1))) dX11_cutOut_190 (by first | rfl | simp only [zm_Is, zm_Rs, zm_As, zm_Os, zm_In0, zm_Rn0])).mpr ⟨⟨g6, g7⟩, ?_⟩
    refine (zq_icmp_lt (t := 197) dX11_cutOut_191 rfl).mpr ⟨fun c => ?_, fun c => ?_⟩
    · replace h := h.1 c
      refine (zq_aload_n dX11_cutOut_197 rfl).mpr ?_
      refine (zq_getR2 (f := 710) (v := (mR m 710 a0)) dX11_cutOut_198 fl_11_24 (by decide) rfl rfl (by first | rfl | simp only [zm_Is, zm_Rs, zm_As, zm_Os, zm_In0, zm_Rn0])).mpr ⟨g1, ?_⟩
      refine (zq_bipush dX11_cutOut_201 (by decide)).mpr ?_
      refine (zq_iload_n dX11_cutOut_203 rfl).mpr ?_
      refine (zq_imul dX11_cutOut_204).mpr ?_
      refine (zq_iload dX11_cutOut_205 rfl).mpr ?_
      refine (zq_iadd dX11_cutOut_207).mpr ?_
      refine (zq_iload dX11_cutOut_208 rfl).mpr ?_
      obtain ⟨g8, h⟩ := h
      refine (zq_iast dX11_cutOut_210).mpr ⟨⟨g4, g8⟩, ?_⟩
      refine (zq_iinc dX11_cutOut_211 rfl rfl).mpr ?_
      refine (zq_iinc dX11_cutOut_214 rfl rfl).mpr ?_
      refine (zq_goto (t := 158) dX11_cutOut_217 rfl).mpr ?_
      exact h
    · replace h := h.2 c
      refine (zq_goto (t := 214) dX11_cutOut_194 rfl).mpr ?_
      refine (zq_iinc dX11_cutOut_214 rfl rfl).mpr ?_
      refine (zq_goto (t := 158) dX11_cutOut_217 rfl).mpr ?_
      exact h
theorem bX11_free_0 {a0 : Nat} {a1 : Int} (h : (mC m a0 = 12) ∧ (mC m (mR m 711 a0) = 20) ∧ (0 ≤ a1 ∧ a1 < mN m (mR m 711 a0)) ∧ zW xs xl d cX11_free 11 (some .int) false [] 9 [zR a0, zI a1, zI (mA m (mR m 711 a0) (Int.toNat a1)), zI 0] [] m Q) : zC xs xl (d + 1) 140 [zR a0, zI a1] m Q := by
  refine zk_140 ?_
  refine (zq_aload_n dX11_free_0 rfl).mpr ?_
  obtain ⟨g1, h⟩ := h
  refine (zq_getR2 (f := 711) (v := (mR m 711 a0)) dX11_free_1 fl_11_27 (by decide) rfl rfl (by first | rfl | simp only [zm_Is, zm_Rs, zm_As, zm_Os, zm_In0, zm_Rn0])).mpr ⟨g1, ?_⟩
  refine (zq_iload_n dX11_free_4 rfl).mpr ?_
  obtain ⟨g2, h⟩ := h
  obtain ⟨g3, h⟩ := h
  refine (zq_iald2 (v := (mA m (mR m 711 a0) (Int.toNat a1))) dX11_free_5 (by first | rfl | simp only [zm_Is, zm_Rs, zm_As, zm_Os, zm_In0, zm_Rn0])).mpr ⟨⟨g2, g3⟩, ?_⟩
  refine (zq_istore_n dX11_free_6 (by simp) rfl).mpr ?_
  refine (zq_iconst dX11_free_7 (by decide)).mpr ?_
  refine (zq_istore_n dX11_free_8 (by simp) rfl).mpr ?_
  exact h
theorem bX11_free_9 {a0 : Nat} {a1 : Int} {a2 : Int} {a3 : Int} (h : (mC m a0 = 12) ∧ (((mI m 712 a0) ≤ a3 → Q (.inl (some (zI a2))) m) ∧ (¬ ((mI m 712 a0) ≤ a3) → (mC m (mR m 725 a0) = 20) ∧ (0 ≤ a3 ∧ a3 < mN m (mR m 725 a0)) ∧ zW xs xl d cX11_free 11 (some .int) false [] 9 [zR a0, zI a1, zI (wr (a2 - (bAnd (bShr (mA m (mR m 725 a0) (Int.toNat a3)) a1) 1))), zI (wr (a3 + 1))] [] m Q))) : zW xs xl d cX11_free 11 (some .int) false [] 9 [zR a0, zI a1, zI a2, zI a3] [] m Q := by
  refine (zq_iload_n dX11_free_9 rfl).mpr ?_
  refine (zq_aload_n dX11_free_10 rfl).mpr ?_
  obtain ⟨g1, h⟩ := h
  refine (zq_getI2 (f := 712) (v := (mI m 712 a0)) dX11_free_11 fl_11_116 (by decide) rfl rfl (by first | rfl | simp only [zm_Is, zm_Rs, zm_As, zm_Os, zm_In0, zm_Rn0])).mpr ⟨g1, ?_⟩
  refine (zq_icmp_ge (t := 36) dX11_free_14 rfl).mpr ⟨fun c => ?_, fun c => ?_⟩
  · replace h := h.1 c
    refine (zq_iload_n dX11_free_36 rfl).mpr ?_
    exact (zq_iret dX11_free_37 rfl).mpr ⟨trivial, h⟩
  · replace h := h.2 c
    refine (zq_iload_n dX11_free_17 rfl).mpr ?_
    refine (zq_aload_n dX11_free_18 rfl).mpr ?_
    refine (zq_getR2 (f := 725) (v := (mR m 725 a0)) dX11_free_19 fl_11_67 (by decide) rfl rfl (by first | rfl | simp only [zm_Is, zm_Rs, zm_As, zm_Os, zm_In0, zm_Rn0])).mpr ⟨g1, ?_⟩
    refine (zq_iload_n dX11_free_22 rfl).mpr ?_
    obtain ⟨g2, h⟩ := h
    obtain ⟨g3, h⟩ := h
    refine (zq_iald2 (v := (mA m (mR m 725 a0) (Int.toNat a3))) dX11_free_23 (by first | rfl | simp only [zm_Is, zm_Rs, zm_As, zm_Os, zm_In0, zm_Rn0])).mpr ⟨⟨g2, g3⟩, ?_⟩
    refine (zq_iload_n dX11_free_24 rfl).mpr ?_
    refine (zq_ishr dX11_free_25).mpr ?_
    refine (zq_iconst dX11_free_26 (by decide)).mpr ?_
    refine (zq_iand dX11_free_27).mpr ?_
    refine (zq_isub dX11_free_28).mpr ?_
    refine (zq_istore_n dX11_free_29 (by simp) rfl).mpr ?_
    refine (zq_iinc dX11_free_30 rfl rfl).mpr ?_
    refine (zq_goto (t := 9) dX11_free_33 rfl).mpr ?_
    exact h
theorem bX11_waiting_0 {a0 : Nat} {a1 : Int} (h : zW xs xl d cX11_waiting 11 (some .int) false [] 4 [zR a0, zI a1, zI 0, zI 0] [] m Q) : zC xs xl (d + 1) 141 [zR a0, zI a1] m Q := by
  refine zk_141 ?_
  refine (zq_iconst dX11_waiting_0 (by decide)).mpr ?_
  refine (zq_istore_n dX11_waiting_1 (by simp) rfl).mpr ?_
  refine (zq_iconst dX11_waiting_2 (by decide)).mpr ?_
  refine (zq_istore_n dX11_waiting_3 (by simp) rfl).mpr ?_
  exact h
theorem bX11_waiting_4 {a0 : Nat} {a1 : Int} {a2 : Int} {a3 : Int} (h : (mC m a0 = 12) ∧ (((mI m 712 a0) ≤ a3 → Q (.inl (some (zI a2))) m) ∧ (¬ ((mI m 712 a0) ≤ a3) → (mC m (mR m 726 a0) = 20) ∧ (0 ≤ a3 ∧ a3 < mN m (mR m 726 a0)) ∧ (((mA m (mR m 726 a0) (Int.toNat a3)) = (-1) → zW xs xl d cX11_waiting 11 (some .int) false [] 4 [zR a0, zI a1, zI (wr (a2 + 0)), zI (wr (a3 + 1))] [] m Q) ∧ (¬ ((mA m (mR m 726 a0) (Int.toNat a3)) = (-1)) → ((a1 = (-1) → zW xs xl d cX11_waiting 11 (some .int) false [] 4 [zR a0, zI a1, zI (wr (a2 + 1)), zI (wr (a3 + 1))] [] m Q) ∧ (¬ (a1 = (-1)) → (((mA m (mR m 726 a0) (Int.toNat a3)) ≠ a1 → zW xs xl d cX11_waiting 11 (some .int) false [] 4 [zR a0, zI a1, zI (wr (a2 + 0)), zI (wr (a3 + 1))] [] m Q) ∧ (¬ ((mA m (mR m 726 a0) (Int.toNat a3)) ≠ a1) → zW xs xl d cX11_waiting 11 (some .int) false [] 4 [zR a0, zI a1, zI (wr (a2 + 1)), zI (wr (a3 + 1))] [] m Q))))))))) : zW xs xl d cX11_waiting 11 (some .int) false [] 4 [zR a0, zI a1, zI a2, zI a3] [] m Q := by
  refine (zq_iload_n dX11_waiting_4 rfl).mpr ?_
  refine (zq_aload_n dX11_waiting_5 rfl).mpr ?_
  obtain ⟨g1, h⟩ := h
  refine (zq_getI2 (f := 712) (v := (mI m 712 a0)) dX11_waiting_6 fl_11_116 (by decide) rfl rfl (by first | rfl | simp only [zm_Is, zm_Rs, zm_As, zm_Os, zm_In0, zm_Rn0])).mpr ⟨g1, ?_⟩
  refine (zq_icmp_ge (t := 51) dX11_waiting_9 rfl).mpr ⟨fun c => ?_, fun c => ?_⟩
  · replace h := h.1 c
    refine (zq_iload_n dX11_waiting_51 rfl).mpr ?_
    exact (zq_iret dX11_waiting_52 rfl).mpr ⟨trivial, h⟩
  · replace h := h.2 c
    refine (zq_iload_n dX11_waiting_12 rfl).mpr ?_
    refine (zq_aload_n dX11_waiting_13 rfl).mpr ?_
    refine (zq_getR2 (f := 726) (v := (mR m 726 a0)) dX11_waiting_14 fl_11_70 (by decide) rfl rfl (by first | rfl | simp only [zm_Is, zm_Rs, zm_As, zm_Os, zm_In0, zm_Rn0])).mpr ⟨g1, ?_⟩
    refine (zq_iload_n dX11_waiting_17 rfl).mpr ?_
    obtain ⟨g2, h⟩ := h
    obtain ⟨g3, h⟩ := h
    refine (zq_iald2 (v := (mA m (mR m 726 a0) (Int.toNat a3))) dX11_waiting_18 (by first | rfl | simp only [zm_Is, zm_Rs, zm_As, zm_Os, zm_In0, zm_Rn0])).mpr ⟨⟨g2, g3⟩, ?_⟩
    refine (zq_iconst dX11_waiting_19 (by decide)).mpr ?_
    refine (zq_icmp_eq (t := 42) dX11_waiting_20 rfl).mpr ⟨fun c => ?_, fun c => ?_⟩
    · replace h := h.1 c
      refine (zq_iconst dX11_waiting_42 (by decide)).mpr ?_
      refine (zq_iadd dX11_waiting_43).mpr ?_
      refine (zq_istore_n dX11_waiting_44 (by simp) rfl).mpr ?_
      refine (zq_iinc dX11_waiting_45 rfl rfl).mpr ?_
      refine (zq_goto (t := 4) dX11_waiting_48 rfl).mpr ?_
      exact h
    · replace h := h.2 c
      refine (zq_iload_n dX11_waiting_23 rfl).mpr ?_
      refine (zq_iconst dX11_waiting_24 (by decide)).mpr ?_
      refine (zq_icmp_eq (t := 38) dX11_waiting_25 rfl).mpr ⟨fun c => ?_, fun c => ?_⟩
      · replace h := h.1 c
        refine (zq_iconst dX11_waiting_38 (by decide)).mpr ?_
        refine (zq_goto (t := 43) dX11_waiting_39 rfl).mpr ?_
        refine (zq_iadd dX11_waiting_43).mpr ?_
        refine (zq_istore_n dX11_waiting_44 (by simp) rfl).mpr ?_
        refine (zq_iinc dX11_waiting_45 rfl rfl).mpr ?_
        refine (zq_goto (t := 4) dX11_waiting_48 rfl).mpr ?_
        exact h
      · replace h := h.2 c
        refine (zq_aload_n dX11_waiting_28 rfl).mpr ?_
        refine (zq_getR2 (f := 726) (v := (mR m 726 a0)) dX11_waiting_29 fl_11_70 (by decide) rfl rfl (by first | rfl | simp only [zm_Is, zm_Rs, zm_As, zm_Os, zm_In0, zm_Rn0])).mpr ⟨g1, ?_⟩
        refine (zq_iload_n dX11_waiting_32 rfl).mpr ?_
        refine (zq_iald2 (v := (mA m (mR m 726 a0) (Int.toNat a3))) dX11_waiting_33 (by first | rfl | simp only [zm_Is, zm_Rs, zm_As, zm_Os, zm_In0, zm_Rn0])).mpr ⟨⟨g2, g3⟩, ?_⟩
        refine (zq_iload_n dX11_waiting_34 rfl).mpr ?_
        refine (zq_icmp_ne (t := 42) dX11_waiting_35 rfl).mpr ⟨fun c => ?_, fun c => ?_⟩
        · replace h := h.1 c
          refine (zq_iconst dX11_waiting_42 (by decide)).mpr ?_
          refine (zq_iadd dX11_waiting_43).mpr ?_
          refine (zq_istore_n dX11_waiting_44 (by simp) rfl).mpr ?_
          refine (zq_iinc dX11_waiting_45 rfl rfl).mpr ?_
          refine (zq_goto (t := 4) dX11_waiting_48 rfl).mpr ?_
          exact h
        · replace h := h.2 c
          refine (zq_iconst dX11_waiting_38 (by decide)).mpr ?_
          refine (zq_goto (t := 43) dX11_waiting_39 rfl).mpr ?_
          refine (zq_iadd dX11_waiting_43).mpr ?_
          refine (zq_istore_n dX11_waiting_44 (by simp) rfl).mpr ?_
          refine (zq_iinc dX11_waiting_45 rfl rfl).mpr ?_
          refine (zq_goto (t := 4) dX11_waiting_48 rfl).mpr ?_
          exact h
theorem bX11_await_0 {a0 : Nat} {a1 : Int} {a2 : Int} {a3 : Int} (h : (mC m a0 = 12) ∧ (0 ≤ a1 ∧ a1 < mN m (mR m 726 a0)) ∧ (mC m (mR m 726 a0) = 20) ∧ (0 ≤ a1 ∧ a1 < mN m (mR m 727 a0)) ∧ (mC m (mR m 727 a0) = 20) ∧ (0 ≤ a1 ∧ a1 < mN m (mR m 728 a0)) ∧ ((mC m (mR m 728 a0) = 21 ∧ (a3 = 0 ∨ a3 = 1)) ∨ (mC m (mR m 728 a0) = 22 ∧ -128 ≤ a3 ∧ a3 ≤ 127)) ∧ Q (.inl none) (sA (sA (sA m (mR m 726 a0) (Int.toNat a1) a2) (mR m 727 a0) (Int.toNat a1) (mI m 704 a0)) (mR m 728 a0) (Int.toNat a1) a3)) : zC xs xl (d + 1) 142 [zR a0, zI a1, zI a2, zI a3] m Q := by
  refine zk_142 ?_
  refine (zq_aload_n dX11_await_0 rfl).mpr ?_
  obtain ⟨g1, h⟩ := h
  refine (zq_getR2 (f := 726) (v := (mR m 726 a0)) dX11_await_1 fl_11_70 (by decide) rfl rfl (by first | rfl | simp only [zm_Is, zm_Rs, zm_As, zm_Os, zm_In0, zm_Rn0])).mpr ⟨g1, ?_⟩
  refine (zq_iload_n dX11_await_4 rfl).mpr ?_
  refine (zq_iload_n dX11_await_5 rfl).mpr ?_
  obtain ⟨g2, h⟩ := h
  obtain ⟨g3, h⟩ := h
  refine (zq_iast dX11_await_6).mpr ⟨⟨g3, g2⟩, ?_⟩
  refine (zq_aload_n dX11_await_7 rfl).mpr ?_
  refine (zq_getR2 (f := 727) (v := (mR m 727 a0)) dX11_await_8 fl_11_73 (by decide) rfl rfl (by first | rfl | simp only [zm_Is, zm_Rs, zm_As, zm_Os, zm_In0, zm_Rn0])).mpr ⟨g1, ?_⟩
  refine (zq_iload_n dX11_await_11 rfl).mpr ?_
  refine (zq_aload_n dX11_await_12 rfl).mpr ?_
  refine (zq_getI2 (f := 704) (v := (mI m 704 a0)) dX11_await_13 fl_11_109 (by decide) rfl rfl (by first | rfl | simp only [zm_Is, zm_Rs, zm_As, zm_Os, zm_In0, zm_Rn0])).mpr ⟨g1, ?_⟩
  obtain ⟨g4, h⟩ := h
  obtain ⟨g5, h⟩ := h
  refine (zq_iast dX11_await_16).mpr ⟨⟨g5, g4⟩, ?_⟩
  refine (zq_aload_n dX11_await_17 rfl).mpr ?_
  refine (zq_getR2 (f := 728) (v := (mR m 728 a0)) dX11_await_18 fl_11_76 (by decide) rfl rfl (by first | rfl | simp only [zm_Is, zm_Rs, zm_As, zm_Os, zm_In0, zm_Rn0])).mpr ⟨g1, ?_⟩
  refine (zq_iload_n dX11_await_21 rfl).mpr ?_
  refine (zq_iload_n dX11_await_22 rfl).mpr ?_
  obtain ⟨g6, h⟩ := h
  obtain ⟨g7, h⟩ := h
  refine (zq_bast dX11_await_23).mpr ⟨⟨g7, g6⟩, ?_⟩
  exact (zq_ret dX11_await_24 rfl).mpr h
theorem bX11_get_0 {a0 : Nat} {a1 : Int} (h : (mC m a0 = 12) ∧ (mC m (mR m 725 a0) = 20) ∧ (0 ≤ a1 ∧ a1 < mN m (mR m 725 a0)) ∧ (mC m (mR m 726 a0) = 20) ∧ (0 ≤ a1 ∧ a1 < mN m (mR m 726 a0)) ∧ (0 ≤ a1 ∧ a1 < mN m (mR m 727 a0)) ∧ (mC m (mR m 727 a0) = 20) ∧ (0 ≤ a1 ∧ a1 < mN m (mR m 728 a0)) ∧ ((mC m (mR m 728 a0) = 21 ∧ (0 = 0 ∨ 0 = 1)) ∨ (mC m (mR m 728 a0) = 22 ∧ -128 ≤ 0 ∧ 0 ≤ 127)) ∧ Q (.inl none) (sA (sA (sA (sA m (mR m 725 a0) (Int.toNat a1) (bOr (mA m (mR m 725 a0) (Int.toNat a1)) (bShl 1 (mA m (mR m 726 a0) (Int.toNat a1))))) (mR m 726 a0) (Int.toNat a1) (-1)) (mR m 727 a0) (Int.toNat a1) (-1)) (mR m 728 a0) (Int.toNat a1) 0)) : zC xs xl (d + 1) 143 [zR a0, zI a1] m Q := by
  refine zk_143 ?_
  refine (zq_aload_n dX11_get_0 rfl).mpr ?_
  obtain ⟨g1, h⟩ := h
  refine (zq_getR2 (f := 725) (v := (mR m 725 a0)) dX11_get_1 fl_11_67 (by decide) rfl rfl (by first | rfl | simp only [zm_Is, zm_Rs, zm_As, zm_Os, zm_In0, zm_Rn0])).mpr ⟨g1, ?_⟩
  refine (zq_iload_n dX11_get_4 rfl).mpr ?_
  refine (zq_dup2IR dX11_get_5).mpr ?_
  obtain ⟨g2, h⟩ := h
  obtain ⟨g3, h⟩ := h
  refine (zq_iald2 (v := (mA m (mR m 725 a0) (Int.toNat a1))) dX11_get_6 (by first | rfl | simp only [zm_Is, zm_Rs, zm_As, zm_Os, zm_In0, zm_Rn0])).mpr ⟨⟨g2, g3⟩, ?_⟩
  refine (zq_iconst dX11_get_7 (by decide)).mpr ?_
  refine (zq_aload_n dX11_get_8 rfl).mpr ?_
  refine (zq_getR2 (f := 726) (v := (mR m 726 a0)) dX11_get_9 fl_11_70 (by decide) rfl rfl (by first | rfl | simp only [zm_Is, zm_Rs, zm_As, zm_Os, zm_In0, zm_Rn0])).mpr ⟨g1, ?_⟩
  refine (zq_iload_n dX11_get_12 rfl).mpr ?_
  obtain ⟨g4, h⟩ := h
  obtain ⟨g5, h⟩ := h
  refine (zq_iald2 (v := (mA m (mR m 726 a0) (Int.toNat a1))) dX11_get_13 (by first | rfl | simp only [zm_Is, zm_Rs, zm_As, zm_Os, zm_In0, zm_Rn0])).mpr ⟨⟨g4, g5⟩, ?_⟩
  refine (zq_ishl dX11_get_14).mpr ?_
  refine (zq_ior dX11_get_15).mpr ?_
  refine (zq_iast dX11_get_16).mpr ⟨⟨g2, g3⟩, ?_⟩
  refine (zq_aload_n dX11_get_17 rfl).mpr ?_
  refine (zq_getR2 (f := 726) (v := (mR m 726 a0)) dX11_get_18 fl_11_70 (by decide) rfl rfl (by first | rfl | simp only [zm_Is, zm_Rs, zm_As, zm_Os, zm_In0, zm_Rn0])).mpr ⟨g1, ?_⟩
  refine (zq_iload_n dX11_get_21 rfl).mpr ?_
  refine (zq_iconst dX11_get_22 (by decide)).mpr ?_
  refine (zq_iast dX11_get_23).mpr ⟨⟨g4, g5⟩, ?_⟩
  refine (zq_aload_n dX11_get_24 rfl).mpr ?_
  refine (zq_getR2 (f := 727) (v := (mR m 727 a0)) dX11_get_25 fl_11_73 (by decide) rfl rfl (by first | rfl | simp only [zm_Is, zm_Rs, zm_As, zm_Os, zm_In0, zm_Rn0])).mpr ⟨g1, ?_⟩
  refine (zq_iload_n dX11_get_28 rfl).mpr ?_
  refine (zq_iconst dX11_get_29 (by decide)).mpr ?_
  obtain ⟨g6, h⟩ := h
  obtain ⟨g7, h⟩ := h
  refine (zq_iast dX11_get_30).mpr ⟨⟨g7, g6⟩, ?_⟩
  refine (zq_aload_n dX11_get_31 rfl).mpr ?_
  refine (zq_getR2 (f := 728) (v := (mR m 728 a0)) dX11_get_32 fl_11_76 (by decide) rfl rfl (by first | rfl | simp only [zm_Is, zm_Rs, zm_As, zm_Os, zm_In0, zm_Rn0])).mpr ⟨g1, ?_⟩
  refine (zq_iload_n dX11_get_35 rfl).mpr ?_
  refine (zq_iconst dX11_get_36 (by decide)).mpr ?_
  obtain ⟨g8, h⟩ := h
  obtain ⟨g9, h⟩ := h
  refine (zq_bast dX11_get_37).mpr ⟨⟨g9, g8⟩, ?_⟩
  exact (zq_ret dX11_get_38 rfl).mpr h
theorem bX11_giveOut_0 {a0 : Nat} (h : zW xs xl d cX11_giveOut 11 (none) false [] 7 [zR a0, zR (mz m), zI 0, zU, zU] [] (nwA m 21 6) Q) : zC xs xl (d + 1) 144 [zR a0] m Q := by
  refine zk_144 ?_
  refine (zq_bipush dX11_giveOut_0 (by decide)).mpr ?_
  refine (zq_newarray (kd := 21) dX11_giveOut_2 rfl (by decide)).mpr ⟨by decide, ?_⟩
  refine (zq_astore_n dX11_giveOut_4 (by simp) rfl).mpr ?_
  refine (zq_iconst dX11_giveOut_5 (by decide)).mpr ?_
  refine (zq_istore_n dX11_giveOut_6 (by simp) rfl).mpr ?_
  exact h
theorem bX11_giveOut_7 {a0 : Nat} {a1 : Nat} {a2 : Int} {a3 : zV} {a4 : zV} (h : (mC m a0 = 12) ∧ (((mI m 712 a0) ≤ a2 → Q (.inl none) m) ∧ (¬ ((mI m 712 a0) ≤ a2) → zW xs xl d cX11_giveOut 11 (none) false [] 20 [zR a0, zR a1, zI a2, zI (-1), zI 0] [] m Q))) : zW xs xl d cX11_giveOut 11 (none) false [] 7 [zR a0, zR a1, zI a2, a3, a4] [] m Q := by
  refine (zq_iload_n dX11_giveOut_7 rfl).mpr ?_
  refine (zq_aload_n dX11_giveOut_8 rfl).mpr ?_
  obtain ⟨g1, h⟩ := h
  refine (zq_getI2 (f := 712) (v := (mI m 712 a0)) dX11_giveOut_9 fl_11_116 (by decide) rfl rfl (by first | rfl | simp only [zm_Is, zm_Rs, zm_As, zm_Os, zm_In0, zm_Rn0])).mpr ⟨g1, ?_⟩
  refine (zq_icmp_ge (t := 111) dX11_giveOut_12 rfl).mpr ⟨fun c => ?_, fun c => ?_⟩
  · replace h := h.1 c
    exact (zq_ret dX11_giveOut_111 rfl).mpr h
  · replace h := h.2 c
    refine (zq_iconst dX11_giveOut_15 (by decide)).mpr ?_
    refine (zq_istore_n dX11_giveOut_16 (by simp) rfl).mpr ?_
    refine (zq_iconst dX11_giveOut_17 (by decide)).mpr ?_
    refine (zq_istore dX11_giveOut_18 (by simp) rfl).mpr ?_
    exact h
theorem bX11_giveOut_20 {a0 : Nat} {a1 : Nat} {a2 : Int} {a3 : Int} {a4 : Int} (h : (mC m a0 = 12) ∧ (((mI m 712 a0) ≤ a4 → ((a3 ≠ (-1) → (0 ≤ a3 ∧ a3 < mN m a1) ∧ ((mC m a1 = 21 ∧ (1 = 0 ∨ 1 = 1)) ∨ (mC m a1 = 22 ∧ -128 ≤ 1 ∧ 1 ≤ 127)) ∧ (mC m (mR m 726 a0) = 20) ∧ (0 ≤ a3 ∧ a3 < mN m (mR m 726 a0)) ∧ zC xs xl d 140 [zR a0, zI (mA (sA m a1 (Int.toNat a3) 1) (mR m 726 a0) (Int.toNat a3))] (sA m a1 (Int.toNat a3) 1) (fun r m6 => ∃ v7 : Int, r = .inl (some (zI v7)) ∧ ((v7 ≤ 0 → zW xs xl d cX11_giveOut 11 (none) false [] 7 [zR a0, zR a1, zI (wr (a2 + 1)), zI a3, zI a4] [] m6 Q) ∧ (¬ (v7 ≤ 0) → (mC m6 a0 = 12) ∧ zC xs xl d 143 [zR a0, zI a3] m6 (fun r m8 => r = .inl none ∧ zW xs xl d cX11_giveOut 11 (none) false [] 7 [zR a0, zR a1, zI (wr (a2 + 1)), zI a3, zI a4] [] m8 Q))))) ∧ (¬ (a3 ≠ (-1)) → Q (.inl none) m))) ∧ (¬ ((mI m 712 a0) ≤ a4) → (mC m (mR m 726 a0) = 20) ∧ (0 ≤ a4 ∧ a4 < mN m (mR m 726 a0)) ∧ (((mA m (mR m 726 a0) (Int.toNat a4)) = (-1) → zW xs xl d cX11_giveOut 11 (none) false [] 20 [zR a0, zR a1, zI a2, zI a3, zI (wr (a4 + 1))] [] m Q) ∧ (¬ ((mA m (mR m 726 a0) (Int.toNat a4)) = (-1)) → (mC m a1 = 21 ∨ mC m a1 = 22) ∧ (0 ≤ a4 ∧ a4 < mN m a1) ∧ (((mA m a1 (Int.toNat a4)) ≠ 0 → zW xs xl d cX11_giveOut 11 (none) false [] 20 [zR a0, zR a1, zI a2, zI a3, zI (wr (a4 + 1))] [] m Q) ∧ (¬ ((mA m a1 (Int.toNat a4)) ≠ 0) → ((a3 = (-1) → zW xs xl d cX11_giveOut 11 (none) false [] 20 [zR a0, zR a1, zI a2, zI a4, zI (wr (a4 + 1))] [] m Q) ∧ (¬ (a3 = (-1)) → (mC m (mR m 727 a0) = 20) ∧ (0 ≤ a4 ∧ a4 < mN m (mR m 727 a0)) ∧ (0 ≤ a3 ∧ a3 < mN m (mR m 727 a0)) ∧ (((mA m (mR m 727 a0) (Int.toNat a3)) ≤ (mA m (mR m 727 a0) (Int.toNat a4)) → zW xs xl d cX11_giveOut 11 (none) false [] 20 [zR a0, zR a1, zI a2, zI a3, zI (wr (a4 + 1))] [] m Q) ∧ (¬ ((mA m (mR m 727 a0) (Int.toNat a3)) ≤ (mA m (mR m 727 a0) (Int.toNat a4))) → zW xs xl d cX11_giveOut 11 (none) false [] 20 [zR a0, zR a1, zI a2, zI a4, zI (wr (a4 + 1))] [] m Q))))))))))) : zW xs xl d cX11_giveOut 11 (none) false [] 20 [zR a0, zR a1, zI a2, zI a3, zI a4] [] m Q := by
  refine (zq_iload dX11_giveOut_20 rfl).mpr ?_
  refine (zq_aload_n dX11_giveOut_22 rfl).mpr ?_
  obtain ⟨g1, h⟩ := h
  refine (zq_getI2 (f := 712) (v := (mI m 712 a0)) dX11_giveOut_23 fl_11_116 (by decide) rfl rfl (by first | rfl | simp only [zm_Is, zm_Rs, zm_As, zm_Os, zm_In0, zm_Rn0])).mpr ⟨g1, ?_⟩
  refine (zq_icmp_ge (t := 77) dX11_giveOut_26 rfl).mpr ⟨fun c => ?_, fun c => ?_⟩
  · replace h := h.1 c
    refine (zq_iload_n dX11_giveOut_77 rfl).mpr ?_
    refine (zq_iconst dX11_giveOut_78 (by decide)).mpr ?_
    refine (zq_icmp_ne (t := 83) dX11_giveOut_79 rfl).mpr ⟨fun c => ?_, fun c => ?_⟩
    · replace h := h.1 c
      refine (zq_aload_n dX11_giveOut_83 rfl).mpr ?_
      refine (zq_iload_n dX11_giveOut_84 rfl).mpr ?_
      refine (zq_iconst dX11_giveOut_85 (by decide)).mpr ?_
      obtain ⟨g2, h⟩ := h
      obtain ⟨g3, h⟩ := h
      refine (zq_bast dX11_giveOut_86).mpr ⟨⟨g3, g2⟩, ?_⟩
      refine (zq_aload_n dX11_giveOut_87 rfl).mpr ?_
      refine (zq_aload_n dX11_giveOut_88 rfl).mpr ?_
      refine (zq_getR2 (f := 726) (v := (mR m 726 a0)) dX11_giveOut_89 fl_11_70 (by decide) rfl rfl (by first | rfl | simp only [zm_Is, zm_Rs, zm_As, zm_Os, zm_In0, zm_Rn0])).mpr ⟨g1, ?_⟩
      refine (zq_iload_n dX11_giveOut_92 rfl).mpr ?_
      obtain ⟨g4, h⟩ := h
      obtain ⟨g5, h⟩ := h
      refine (zq_iald2 (v := (mA (sA m a1 (Int.toNat a3) 1) (mR m 726 a0) (Int.toNat a3))) dX11_giveOut_93 (by first | rfl | simp only [zm_Is, zm_Rs, zm_As, zm_Os, zm_In0, zm_Rn0])).mpr ⟨⟨g4, g5⟩, ?_⟩
      refine zq_virtualI (n := 1) dX11_giveOut_94 mr_11_156 zn_140 rfl rfl rfl (zrcv_R zo_140 (by decide) g1) (Nat.le_of_ble_eq_true rfl) ?_
      refine h.mono (fun r m6 h => ?_)
      obtain ⟨v7, rfl, h⟩ := h
      refine ⟨_, rfl, ?_⟩
      refine (zq_if_le (t := 105) dX11_giveOut_97 rfl).mpr ⟨fun c => ?_, fun c => ?_⟩
      · replace h := h.1 c
        refine (zq_iinc dX11_giveOut_105 rfl rfl).mpr ?_
        refine (zq_goto (t := 7) dX11_giveOut_108 rfl).mpr ?_
        exact h
      · replace h := h.2 c
        refine (zq_aload_n dX11_giveOut_100 rfl).mpr ?_
        refine (zq_iload_n dX11_giveOut_101 rfl).mpr ?_
        obtain ⟨g10, h⟩ := h
        refine zq_virtualV (n := 1) dX11_giveOut_102 mr_11_160 zn_143 rfl rfl rfl (zrcv_R zo_143 (by decide) g10) (Nat.le_of_ble_eq_true rfl) ?_
        refine h.mono (fun r m8 h => ?_)
        obtain ⟨rfl, h⟩ := h
        refine ⟨rfl, ?_⟩
        refine (zq_iinc dX11_giveOut_105 rfl rfl).mpr ?_
        refine (zq_goto (t := 7) dX11_giveOut_108 rfl).mpr ?_
        exact h
    · replace h := h.2 c
      exact (zq_ret dX11_giveOut_82 rfl).mpr h
  · replace h := h.2 c
    refine (zq_aload_n dX11_giveOut_29 rfl).mpr ?_
    refine (zq_getR2 (f := 726) (v := (mR m 726 a0)) dX11_giveOut_30 fl_11_70 (by decide) rfl rfl (by first | rfl | simp only [zm_Is, zm_Rs, zm_As, zm_Os, zm_In0, zm_Rn0])).mpr ⟨g1, ?_⟩
    refine (zq_iload dX11_giveOut_33 rfl).mpr ?_
    obtain ⟨g11, h⟩ := h
    obtain ⟨g12, h⟩ := h
    refine (zq_iald2 (v := (mA m (mR m 726 a0) (Int.toNat a4))) dX11_giveOut_35 (by first | rfl | simp only [zm_Is, zm_Rs, zm_As, zm_Os, zm_In0, zm_Rn0])).mpr ⟨⟨g11, g12⟩, ?_⟩
    refine (zq_iconst dX11_giveOut_36 (by decide)).mpr ?_
    refine (zq_icmp_eq (t := 71) dX11_giveOut_37 rfl).mpr ⟨fun c => ?_, fun c => ?_⟩
    · replace h := h.1 c
      refine (zq_iinc dX11_giveOut_71 rfl rfl).mpr ?_
      refine (zq_goto (t := 20) dX11_giveOut_74 rfl).mpr ?_
      exact h
    · replace h := h.2 c
      refine (zq_aload_n dX11_giveOut_40 rfl).mpr ?_
      refine (zq_iload dX11_giveOut_41 rfl).mpr ?_
      obtain ⟨g13, h⟩ := h
      obtain ⟨g14, h⟩ := h
      refine (zq_bald2 (v := (mA m a1 (Int.toNat a4))) dX11_giveOut_43 (by first | rfl | simp only [zm_Is, zm_Rs, zm_As, zm_Os, zm_In0, zm_Rn0])).mpr ⟨⟨g13, g14⟩, ?_⟩
      refine (zq_if_ne (t := 71) dX11_giveOut_44 rfl).mpr ⟨fun c => ?_, fun c => ?_⟩
      · replace h := h.1 c
        refine (zq_iinc dX11_giveOut_71 rfl rfl).mpr ?_
        refine (zq_goto (t := 20) dX11_giveOut_74 rfl).mpr ?_
        exact h
      · replace h := h.2 c
        refine (zq_iload_n dX11_giveOut_47 rfl).mpr ?_
        refine (zq_iconst dX11_giveOut_48 (by decide)).mpr ?_
        refine (zq_icmp_eq (t := 68) dX11_giveOut_49 rfl).mpr ⟨fun c => ?_, fun c => ?_⟩
        · replace h := h.1 c
          refine (zq_iload dX11_giveOut_68 rfl).mpr ?_
          refine (zq_istore_n dX11_giveOut_70 (by simp) rfl).mpr ?_
          refine (zq_iinc dX11_giveOut_71 rfl rfl).mpr ?_
          refine (zq_goto (t := 20) dX11_giveOut_74 rfl).mpr ?_
          exact h
        · replace h := h.2 c
          refine (zq_aload_n dX11_giveOut_52 rfl).mpr ?_
          refine (zq_getR2 (f := 727) (v := (mR m 727 a0)) dX11_giveOut_53 fl_11_73 (by decide) rfl rfl (by first | rfl | simp only [zm_Is, zm_Rs, zm_As, zm_Os, zm_In0, zm_Rn0])).mpr ⟨g1, ?_⟩
          refine (zq_iload dX11_giveOut_56 rfl).mpr ?_
          obtain ⟨g15, h⟩ := h
          obtain ⟨g16, h⟩ := h
          refine (zq_iald2 (v := (mA m (mR m 727 a0) (Int.toNat a4))) dX11_giveOut_58 (by first | rfl | simp only [zm_Is, zm_Rs, zm_As, zm_Os, zm_In0, zm_Rn0])).mpr ⟨⟨g15, g16⟩, ?_⟩
          refine (zq_aload_n dX11_giveOut_59 rfl).mpr ?_
          refine (zq_getR2 (f := 727) (v := (mR m 727 a0)) dX11_giveOut_60 fl_11_73 (by decide) rfl rfl (by first | rfl | simp only [zm_Is, zm_Rs, zm_As, zm_Os, zm_In0, zm_Rn0])).mpr ⟨g1, ?_⟩
          refine (zq_iload_n dX11_giveOut_63 rfl).mpr ?_
          obtain ⟨g17, h⟩ := h
          refine (zq_iald2 (v := (mA m (mR m 727 a0) (Int.toNat a3))) dX11_giveOut_64 (by first | rfl | simp only [zm_Is, zm_Rs, zm_As, zm_Os, zm_In0, zm_Rn0])).mpr ⟨⟨g15, g17⟩, ?_⟩
          refine (zq_icmp_ge (t := 71) dX11_giveOut_65 rfl).mpr ⟨fun c => ?_, fun c => ?_⟩
          · replace h := h.1 c
            refine (zq_iinc dX11_giveOut_71 rfl rfl).mpr ?_
            refine (zq_goto (t := 20) dX11_giveOut_74 rfl).mpr ?_
            exact h
          · replace h := h.2 c
            refine (zq_iload dX11_giveOut_68 rfl).mpr ?_
            refine (zq_istore_n dX11_giveOut_70 (by simp) rfl).mpr ?_
            refine (zq_iinc dX11_giveOut_71 rfl rfl).mpr ?_
            refine (zq_goto (t := 20) dX11_giveOut_74 rfl).mpr ?_
            exact h
theorem bX11_stuck_0 {a0 : Nat} (h : zW xs xl d cX11_stuck 11 (some .int) false [] 4 [zR a0, zI 0, zI 0, zU] [] m Q) : zC xs xl (d + 1) 145 [zR a0] m Q := by
  refine zk_145 ?_
  refine (zq_iconst dX11_stuck_0 (by decide)).mpr ?_
  refine (zq_istore_n dX11_stuck_1 (by simp) rfl).mpr ?_
  refine (zq_iconst dX11_stuck_2 (by decide)).mpr ?_
  refine (zq_istore_n dX11_stuck_3 (by simp) rfl).mpr ?_
  exact h
theorem bX11_stuck_4 {a0 : Nat} {a1 : Int} {a2 : Int} {a3 : zV} (h : (mC m a0 = 12) ∧ (((mI m 712 a0) ≤ a2 → zW xs xl d cX11_stuck 11 (some .int) false [] 45 [zR a0, zI a1, zI 1, a3] [] m Q) ∧ (¬ ((mI m 712 a0) ≤ a2) → (mC m (mR m 714 a0) = 21 ∨ mC m (mR m 714 a0) = 22) ∧ (0 ≤ a2 ∧ a2 < mN m (mR m 714 a0)) ∧ (((mA m (mR m 714 a0) (Int.toNat a2)) = 0 → zW xs xl d cX11_stuck 11 (some .int) false [] 4 [zR a0, zI a1, zI (wr (a2 + 1)), a3] [] m Q) ∧ (¬ ((mA m (mR m 714 a0) (Int.toNat a2)) = 0) → (mC m (mR m 726 a0) = 20) ∧ (0 ≤ a2 ∧ a2 < mN m (mR m 726 a0)) ∧ (((mA m (mR m 726 a0) (Int.toNat a2)) = (-1) → zW xs xl d cX11_stuck 11 (some .int) false [] 4 [zR a0, zI a1, zI (wr (a2 + 1)), a3] [] m Q) ∧ (¬ ((mA m (mR m 726 a0) (Int.toNat a2)) = (-1)) → zW xs xl d cX11_stuck 11 (some .int) false [] 4 [zR a0, zI (bOr a1 (bShl 1 a2)), zI (wr (a2 + 1)), a3] [] m Q))))))) : zW xs xl d cX11_stuck 11 (some .int) false [] 4 [zR a0, zI a1, zI a2, a3] [] m Q := by
  refine (zq_iload_n dX11_stuck_4 rfl).mpr ?_
  refine (zq_aload_n dX11_stuck_5 rfl).mpr ?_
  obtain ⟨g1, h⟩ := h
  refine (zq_getI2 (f := 712) (v := (mI m 712 a0)) dX11_stuck_6 fl_11_116 (by decide) rfl rfl (by first | rfl | simp only [zm_Is, zm_Rs, zm_As, zm_Os, zm_In0, zm_Rn0])).mpr ⟨g1, ?_⟩
  refine (zq_icmp_ge (t := 43) dX11_stuck_9 rfl).mpr ⟨fun c => ?_, fun c => ?_⟩
  · replace h := h.1 c
    refine (zq_iconst dX11_stuck_43 (by decide)).mpr ?_
    refine (zq_istore_n dX11_stuck_44 (by simp) rfl).mpr ?_
    exact h
  · replace h := h.2 c
    refine (zq_aload_n dX11_stuck_12 rfl).mpr ?_
    refine (zq_getR2 (f := 714) (v := (mR m 714 a0)) dX11_stuck_13 fl_11_33 (by decide) rfl rfl (by first | rfl | simp only [zm_Is, zm_Rs, zm_As, zm_Os, zm_In0, zm_Rn0])).mpr ⟨g1, ?_⟩
    refine (zq_iload_n dX11_stuck_16 rfl).mpr ?_
    obtain ⟨g2, h⟩ := h
    obtain ⟨g3, h⟩ := h
    refine (zq_bald2 (v := (mA m (mR m 714 a0) (Int.toNat a2))) dX11_stuck_17 (by first | rfl | simp only [zm_Is, zm_Rs, zm_As, zm_Os, zm_In0, zm_Rn0])).mpr ⟨⟨g2, g3⟩, ?_⟩
    refine (zq_if_eq (t := 37) dX11_stuck_18 rfl).mpr ⟨fun c => ?_, fun c => ?_⟩
    · replace h := h.1 c
      refine (zq_iinc dX11_stuck_37 rfl rfl).mpr ?_
      refine (zq_goto (t := 4) dX11_stuck_40 rfl).mpr ?_
      exact h
    · replace h := h.2 c
      refine (zq_aload_n dX11_stuck_21 rfl).mpr ?_
      refine (zq_getR2 (f := 726) (v := (mR m 726 a0)) dX11_stuck_22 fl_11_70 (by decide) rfl rfl (by first | rfl | simp only [zm_Is, zm_Rs, zm_As, zm_Os, zm_In0, zm_Rn0])).mpr ⟨g1, ?_⟩
      refine (zq_iload_n dX11_stuck_25 rfl).mpr ?_
      obtain ⟨g4, h⟩ := h
      obtain ⟨g5, h⟩ := h
      refine (zq_iald2 (v := (mA m (mR m 726 a0) (Int.toNat a2))) dX11_stuck_26 (by first | rfl | simp only [zm_Is, zm_Rs, zm_As, zm_Os, zm_In0, zm_Rn0])).mpr ⟨⟨g4, g5⟩, ?_⟩
      refine (zq_iconst dX11_stuck_27 (by decide)).mpr ?_
      refine (zq_icmp_eq (t := 37) dX11_stuck_28 rfl).mpr ⟨fun c => ?_, fun c => ?_⟩
      · replace h := h.1 c
        refine (zq_iinc dX11_stuck_37 rfl rfl).mpr ?_
        refine (zq_goto (t := 4) dX11_stuck_40 rfl).mpr ?_
        exact h
      · replace h := h.2 c
        refine (zq_iload_n dX11_stuck_31 rfl).mpr ?_
        refine (zq_iconst dX11_stuck_32 (by decide)).mpr ?_
        refine (zq_iload_n dX11_stuck_33 rfl).mpr ?_
        refine (zq_ishl dX11_stuck_34).mpr ?_
        refine (zq_ior dX11_stuck_35).mpr ?_
        refine (zq_istore_n dX11_stuck_36 (by simp) rfl).mpr ?_
        refine (zq_iinc dX11_stuck_37 rfl rfl).mpr ?_
        refine (zq_goto (t := 4) dX11_stuck_40 rfl).mpr ?_
        exact h
theorem bX11_stuck_45 {a0 : Nat} {a1 : Int} {a2 : Int} {a3 : zV} (h : ((a2 = 0 → Q (.inl (some (zI a1))) m) ∧ (¬ (a2 = 0) → zW xs xl d cX11_stuck 11 (some .int) false [] 53 [zR a0, zI a1, zI 0, zI 0] [] m Q))) : zW xs xl d cX11_stuck 11 (some .int) false [] 45 [zR a0, zI a1, zI a2, a3] [] m Q := by
  refine (zq_iload_n dX11_stuck_45 rfl).mpr ?_
  refine (zq_if_eq (t := 117) dX11_stuck_46 rfl).mpr ⟨fun c => ?_, fun c => ?_⟩
  · replace h := h.1 c
    refine (zq_iload_n dX11_stuck_117 rfl).mpr ?_
    exact (zq_iret dX11_stuck_118 rfl).mpr ⟨trivial, h⟩
  · replace h := h.2 c
    refine (zq_iconst dX11_stuck_49 (by decide)).mpr ?_
    refine (zq_istore_n dX11_stuck_50 (by simp) rfl).mpr ?_
    refine (zq_iconst dX11_stuck_51 (by decide)).mpr ?_
    refine (zq_istore_n dX11_stuck_52 (by simp) rfl).mpr ?_
    exact h
theorem bX11_stuck_53 {a0 : Nat} {a1 : Int} {a2 : Int} {a3 : Int} (h : (mC m a0 = 12) ∧ (((mI m 712 a0) ≤ a3 → zW xs xl d cX11_stuck 11 (some .int) false [] 45 [zR a0, zI a1, zI a2, zI a3] [] m Q) ∧ (¬ ((mI m 712 a0) ≤ a3) → (((bAnd (bShr a1 a3) 1) = 0 → zW xs xl d cX11_stuck 11 (some .int) false [] 53 [zR a0, zI a1, zI a2, zI (wr (a3 + 1))] [] m Q) ∧ (¬ ((bAnd (bShr a1 a3) 1) = 0) → (mC m (mR m 726 a0) = 20) ∧ (0 ≤ a3 ∧ a3 < mN m (mR m 726 a0)) ∧ (mC m (mR m 711 a0) = 20) ∧ (0 ≤ (mA m (mR m 726 a0) (Int.toNat a3)) ∧ (mA m (mR m 726 a0) (Int.toNat a3)) < mN m (mR m 711 a0)) ∧ zC xs xl d 146 [zR a0, zI a1, zI (mA m (mR m 726 a0) (Int.toNat a3))] m (fun r m6 => ∃ v7 : Int, r = .inl (some (zI v7)) ∧ ((0 < (wr ((mA m (mR m 711 a0) (Int.toNat (mA m (mR m 726 a0) (Int.toNat a3)))) - v7)) → zW xs xl d cX11_stuck 11 (some .int) false [] 53 [zR a0, zI (bAnd a1 (bXor (bShl 1 a3) (-1))), zI 1, zI (wr (a3 + 1))] [] m6 Q) ∧ (¬ (0 < (wr ((mA m (mR m 711 a0) (Int.toNat (mA m (mR m 726 a0) (Int.toNat a3)))) - v7))) → zW xs xl d cX11_stuck 11 (some .int) false [] 53 [zR a0, zI a1, zI a2, zI (wr (a3 + 1))] [] m6 Q)))))))) : zW xs xl d cX11_stuck 11 (some .int) false [] 53 [zR a0, zI a1, zI a2, zI a3] [] m Q := by
  refine (zq_iload_n dX11_stuck_53 rfl).mpr ?_
  refine (zq_aload_n dX11_stuck_54 rfl).mpr ?_
  obtain ⟨g1, h⟩ := h
  refine (zq_getI2 (f := 712) (v := (mI m 712 a0)) dX11_stuck_55 fl_11_116 (by decide) rfl rfl (by first | rfl | simp only [zm_Is, zm_Rs, zm_As, zm_Os, zm_In0, zm_Rn0])).mpr ⟨g1, ?_⟩
  refine (zq_icmp_ge (t := 114) dX11_stuck_58 rfl).mpr ⟨fun c => ?_, fun c => ?_⟩
  · replace h := h.1 c
    refine (zq_goto (t := 45) dX11_stuck_114 rfl).mpr ?_
    exact h
  · replace h := h.2 c
    refine (zq_iload_n dX11_stuck_61 rfl).mpr ?_
    refine (zq_iload_n dX11_stuck_62 rfl).mpr ?_
    refine (zq_ishr dX11_stuck_63).mpr ?_
    refine (zq_iconst dX11_stuck_64 (by decide)).mpr ?_
    refine (zq_iand dX11_stuck_65).mpr ?_
    refine (zq_if_eq (t := 108) dX11_stuck_66 rfl).mpr ⟨fun c => ?_, fun c => ?_⟩
    · replace h := h.1 c
      refine (zq_iinc dX11_stuck_108 rfl rfl).mpr ?_
      refine (zq_goto (t := 53) dX11_stuck_111 rfl).mpr ?_
      exact h
    · replace h := h.2 c
      refine (zq_aload_n dX11_stuck_69 rfl).mpr ?_
      refine (zq_getR2 (f := 711) (v := (mR m 711 a0)) dX11_stuck_70 fl_11_27 (by decide) rfl rfl (by first | rfl | simp only [zm_Is, zm_Rs, zm_As, zm_Os, zm_In0, zm_Rn0])).mpr ⟨g1, ?_⟩
      refine (zq_aload_n dX11_stuck_73 rfl).mpr ?_
      refine (zq_getR2 (f := 726) (v := (mR m 726 a0)) dX11_stuck_74 fl_11_70 (by decide) rfl rfl (by first | rfl | simp only [zm_Is, zm_Rs, zm_As, zm_Os, zm_In0, zm_Rn0])).mpr ⟨g1, ?_⟩
      refine (zq_iload_n dX11_stuck_77 rfl).mpr ?_
      obtain ⟨g2, h⟩ := h
      obtain ⟨g3, h⟩ := h
      refine (zq_iald2 (v := (mA m (mR m 726 a0) (Int.toNat a3))) dX11_stuck_78 (by first | rfl | simp only [zm_Is, zm_Rs, zm_As, zm_Os, zm_In0, zm_Rn0])).mpr ⟨⟨g2, g3⟩, ?_⟩
      obtain ⟨g4, h⟩ := h
      obtain ⟨g5, h⟩ := h
      refine (zq_iald2 (v := (mA m (mR m 711 a0) (Int.toNat (mA m (mR m 726 a0) (Int.toNat a3))))) dX11_stuck_79 (by first | rfl | simp only [zm_Is, zm_Rs, zm_As, zm_Os, zm_In0, zm_Rn0])).mpr ⟨⟨g4, g5⟩, ?_⟩
      refine (zq_aload_n dX11_stuck_80 rfl).mpr ?_
      refine (zq_iload_n dX11_stuck_81 rfl).mpr ?_
      refine (zq_aload_n dX11_stuck_82 rfl).mpr ?_
      refine (zq_getR2 (f := 726) (v := (mR m 726 a0)) dX11_stuck_83 fl_11_70 (by decide) rfl rfl (by first | rfl | simp only [zm_Is, zm_Rs, zm_As, zm_Os, zm_In0, zm_Rn0])).mpr ⟨g1, ?_⟩
      refine (zq_iload_n dX11_stuck_86 rfl).mpr ?_
      refine (zq_iald2 (v := (mA m (mR m 726 a0) (Int.toNat a3))) dX11_stuck_87 (by first | rfl | simp only [zm_Is, zm_Rs, zm_As, zm_Os, zm_In0, zm_Rn0])).mpr ⟨⟨g2, g3⟩, ?_⟩
      refine zq_virtualI (n := 2) dX11_stuck_88 mr_11_164 zn_146 rfl rfl rfl (zrcv_R zo_146 (by decide) g1) (Nat.le_of_ble_eq_true rfl) ?_
      refine h.mono (fun r m6 h => ?_)
      obtain ⟨v7, rfl, h⟩ := h
      refine ⟨_, rfl, ?_⟩
      refine (zq_isub dX11_stuck_91).mpr ?_
      refine (zq_if_gt (t := 98) dX11_stuck_92 rfl).mpr ⟨fun c => ?_, fun c => ?_⟩
      · replace h := h.1 c
        refine (zq_iload_n dX11_stuck_98 rfl).mpr ?_
        refine (zq_iconst dX11_stuck_99 (by decide)).mpr ?_
        refine (zq_iload_n dX11_stuck_100 rfl).mpr ?_
        refine (zq_ishl dX11_stuck_101).mpr ?_
        refine (zq_iconst dX11_stuck_102 (by decide)).mpr ?_
        refine (zq_ixor dX11_stuck_103).mpr ?_
        refine (zq_iand dX11_stuck_104).mpr ?_
        refine (zq_istore_n dX11_stuck_105 (by simp) rfl).mpr ?_
        refine (zq_iconst dX11_stuck_106 (by decide)).mpr ?_
        refine (zq_istore_n dX11_stuck_107 (by simp) rfl).mpr ?_
        refine (zq_iinc dX11_stuck_108 rfl rfl).mpr ?_
        refine (zq_goto (t := 53) dX11_stuck_111 rfl).mpr ?_
        exact h
      · replace h := h.2 c
        refine (zq_goto (t := 108) dX11_stuck_95 rfl).mpr ?_
        refine (zq_iinc dX11_stuck_108 rfl rfl).mpr ?_
        refine (zq_goto (t := 53) dX11_stuck_111 rfl).mpr ?_
        exact h
theorem bX11_heldBy_0 {a0 : Nat} {a1 : Int} {a2 : Int} (h : zW xs xl d cX11_heldBy 11 (some .int) false [] 5 [zR a0, zI a1, zI a2, zI 0, zI 0] [] m Q) : zC xs xl (d + 1) 146 [zR a0, zI a1, zI a2] m Q := by
  refine zk_146 ?_
  refine (zq_iconst dX11_heldBy_0 (by decide)).mpr ?_
  refine (zq_istore_n dX11_heldBy_1 (by simp) rfl).mpr ?_
  refine (zq_iconst dX11_heldBy_2 (by decide)).mpr ?_
  refine (zq_istore dX11_heldBy_3 (by simp) rfl).mpr ?_
  exact h
theorem bX11_heldBy_5 {a0 : Nat} {a1 : Int} {a2 : Int} {a3 : Int} {a4 : Int} (h : (mC m a0 = 12) ∧ (((mI m 712 a0) ≤ a4 → Q (.inl (some (zI a3))) m) ∧ (¬ ((mI m 712 a0) ≤ a4) → (((bAnd (bShr a1 a4) 1) ≠ 1 → zW xs xl d cX11_heldBy 11 (some .int) false [] 5 [zR a0, zI a1, zI a2, zI (wr (a3 + 0)), zI (wr (a4 + 1))] [] m Q) ∧ (¬ ((bAnd (bShr a1 a4) 1) ≠ 1) → (mC m (mR m 725 a0) = 20) ∧ (0 ≤ a4 ∧ a4 < mN m (mR m 725 a0)) ∧ zW xs xl d cX11_heldBy 11 (some .int) false [] 5 [zR a0, zI a1, zI a2, zI (wr (a3 + (bAnd (bShr (mA m (mR m 725 a0) (Int.toNat a4)) a2) 1))), zI (wr (a4 + 1))] [] m Q))))) : zW xs xl d cX11_heldBy 11 (some .int) false [] 5 [zR a0, zI a1, zI a2, zI a3, zI a4] [] m Q := by
  refine (zq_iload dX11_heldBy_5 rfl).mpr ?_
  refine (zq_aload_n dX11_heldBy_7 rfl).mpr ?_
  obtain ⟨g1, h⟩ := h
  refine (zq_getI2 (f := 712) (v := (mI m 712 a0)) dX11_heldBy_8 fl_11_116 (by decide) rfl rfl (by first | rfl | simp only [zm_Is, zm_Rs, zm_As, zm_Os, zm_In0, zm_Rn0])).mpr ⟨g1, ?_⟩
  refine (zq_icmp_ge (t := 48) dX11_heldBy_11 rfl).mpr ⟨fun c => ?_, fun c => ?_⟩
  · replace h := h.1 c
    refine (zq_iload_n dX11_heldBy_48 rfl).mpr ?_
    exact (zq_iret dX11_heldBy_49 rfl).mpr ⟨trivial, h⟩
  · replace h := h.2 c
    refine (zq_iload_n dX11_heldBy_14 rfl).mpr ?_
    refine (zq_iload_n dX11_heldBy_15 rfl).mpr ?_
    refine (zq_iload dX11_heldBy_16 rfl).mpr ?_
    refine (zq_ishr dX11_heldBy_18).mpr ?_
    refine (zq_iconst dX11_heldBy_19 (by decide)).mpr ?_
    refine (zq_iand dX11_heldBy_20).mpr ?_
    refine (zq_iconst dX11_heldBy_21 (by decide)).mpr ?_
    refine (zq_icmp_ne (t := 39) dX11_heldBy_22 rfl).mpr ⟨fun c => ?_, fun c => ?_⟩
    · replace h := h.1 c
      refine (zq_iconst dX11_heldBy_39 (by decide)).mpr ?_
      refine (zq_iadd dX11_heldBy_40).mpr ?_
      refine (zq_istore_n dX11_heldBy_41 (by simp) rfl).mpr ?_
      refine (zq_iinc dX11_heldBy_42 rfl rfl).mpr ?_
      refine (zq_goto (t := 5) dX11_heldBy_45 rfl).mpr ?_
      exact h
    · replace h := h.2 c
      refine (zq_aload_n dX11_heldBy_25 rfl).mpr ?_
      refine (zq_getR2 (f := 725) (v := (mR m 725 a0)) dX11_heldBy_26 fl_11_67 (by decide) rfl rfl (by first | rfl | simp only [zm_Is, zm_Rs, zm_As, zm_Os, zm_In0, zm_Rn0])).mpr ⟨g1, ?_⟩
      refine (zq_iload dX11_heldBy_29 rfl).mpr ?_
      obtain ⟨g2, h⟩ := h
      obtain ⟨g3, h⟩ := h
      refine (zq_iald2 (v := (mA m (mR m 725 a0) (Int.toNat a4))) dX11_heldBy_31 (by first | rfl | simp only [zm_Is, zm_Rs, zm_As, zm_Os, zm_In0, zm_Rn0])).mpr ⟨⟨g2, g3⟩, ?_⟩
      refine (zq_iload_n dX11_heldBy_32 rfl).mpr ?_
      refine (zq_ishr dX11_heldBy_33).mpr ?_
      refine (zq_iconst dX11_heldBy_34 (by decide)).mpr ?_
      refine (zq_iand dX11_heldBy_35).mpr ?_
      refine (zq_goto (t := 40) dX11_heldBy_36 rfl).mpr ?_
      refine (zq_iadd dX11_heldBy_40).mpr ?_
      refine (zq_istore_n dX11_heldBy_41 (by simp) rfl).mpr ?_
      refine (zq_iinc dX11_heldBy_42 rfl rfl).mpr ?_
      refine (zq_goto (t := 5) dX11_heldBy_45 rfl).mpr ?_
      exact h
theorem bX11_pass_0 {a0 : Nat} (h : (mC m a0 = 12) ∧ zC xs xl d 144 [zR a0] (sI m 704 a0 (wr ((mI m 704 a0) + 1))) (fun r m2 => r = .inl none ∧ zW xs xl d cX11_pass 11 (none) false [] 16 [zR a0, zI 0] [] m2 Q)) : zC xs xl (d + 1) 147 [zR a0] m Q := by
  refine zk_147 ?_
  refine (zq_aload_n dX11_pass_0 rfl).mpr ?_
  refine (zq_dupR dX11_pass_1).mpr ?_
  obtain ⟨g1, h⟩ := h
  refine (zq_getI2 (f := 704) (v := (mI m 704 a0)) dX11_pass_2 fl_11_109 (by decide) rfl rfl (by first | rfl | simp only [zm_Is, zm_Rs, zm_As, zm_Os, zm_In0, zm_Rn0])).mpr ⟨g1, ?_⟩
  refine (zq_iconst dX11_pass_5 (by decide)).mpr ?_
  refine (zq_iadd dX11_pass_6).mpr ?_
  refine (zq_putI (f := 704) dX11_pass_7 fl_11_109 (by decide) rfl rfl rfl).mpr ⟨g1, ?_⟩
  refine (zq_aload_n dX11_pass_10 rfl).mpr ?_
  refine zq_virtualV (n := 0) dX11_pass_11 mr_11_167 zn_144 rfl rfl rfl (zrcv_R zo_144 (by decide) g1) (Nat.le_of_ble_eq_true rfl) ?_
  refine h.mono (fun r m2 h => ?_)
  obtain ⟨rfl, h⟩ := h
  refine ⟨rfl, ?_⟩
  refine (zq_iconst dX11_pass_14 (by decide)).mpr ?_
  refine (zq_istore_n dX11_pass_15 (by simp) rfl).mpr ?_
  exact h
theorem bX11_pass_16 {a0 : Nat} {a1 : Int} (h : (mC m a0 = 12) ∧ (((mI m 712 a0) ≤ a1 → zW xs xl d cX11_pass 11 (none) false [] 65 [zR a0, zI 0] [] m Q) ∧ (¬ ((mI m 712 a0) ≤ a1) → (mC m (mR m 714 a0) = 21 ∨ mC m (mR m 714 a0) = 22) ∧ (0 ≤ a1 ∧ a1 < mN m (mR m 714 a0)) ∧ (((mA m (mR m 714 a0) (Int.toNat a1)) = 0 → zW xs xl d cX11_pass 11 (none) false [] 16 [zR a0, zI (wr (a1 + 1))] [] m Q) ∧ (¬ ((mA m (mR m 714 a0) (Int.toNat a1)) = 0) → (mC m (mR m 726 a0) = 20) ∧ (0 ≤ a1 ∧ a1 < mN m (mR m 726 a0)) ∧ (((mA m (mR m 726 a0) (Int.toNat a1)) = (-1) → zC xs xl d 148 [zR a0, zI a1] m (fun r m6 => r = .inl none ∧ zW xs xl d cX11_pass 11 (none) false [] 16 [zR a0, zI (wr (a1 + 1))] [] m6 Q)) ∧ (¬ ((mA m (mR m 726 a0) (Int.toNat a1)) = (-1)) → (mC m (mR m 728 a0) = 21 ∨ mC m (mR m 728 a0) = 22) ∧ (0 ≤ a1 ∧ a1 < mN m (mR m 728 a0)) ∧ (((mA m (mR m 728 a0) (Int.toNat a1)) ≠ 0 → zW xs xl d cX11_pass 11 (none) false [] 16 [zR a0, zI (wr (a1 + 1))] [] m Q) ∧ (¬ ((mA m (mR m 728 a0) (Int.toNat a1)) ≠ 0) → zC xs xl d 148 [zR a0, zI a1] m (fun r m10 => r = .inl none ∧ zW xs xl d cX11_pass 11 (none) false [] 16 [zR a0, zI (wr (a1 + 1))] [] m10 Q)))))))))) : zW xs xl d cX11_pass 11 (none) false [] 16 [zR a0, zI a1] [] m Q := by
  refine (zq_iload_n dX11_pass_16 rfl).mpr ?_
  refine (zq_aload_n dX11_pass_17 rfl).mpr ?_
  obtain ⟨g1, h⟩ := h
  refine (zq_getI2 (f := 712) (v := (mI m 712 a0)) dX11_pass_18 fl_11_116 (by decide) rfl rfl (by first | rfl | simp only [zm_Is, zm_Rs, zm_As, zm_Os, zm_In0, zm_Rn0])).mpr ⟨g1, ?_⟩
  refine (zq_icmp_ge (t := 63) dX11_pass_21 rfl).mpr ⟨fun c => ?_, fun c => ?_⟩
  · replace h := h.1 c
    refine (zq_iconst dX11_pass_63 (by decide)).mpr ?_
    refine (zq_istore_n dX11_pass_64 (by simp) rfl).mpr ?_
    exact h
  · replace h := h.2 c
    refine (zq_aload_n dX11_pass_24 rfl).mpr ?_
    refine (zq_getR2 (f := 714) (v := (mR m 714 a0)) dX11_pass_25 fl_11_33 (by decide) rfl rfl (by first | rfl | simp only [zm_Is, zm_Rs, zm_As, zm_Os, zm_In0, zm_Rn0])).mpr ⟨g1, ?_⟩
    refine (zq_iload_n dX11_pass_28 rfl).mpr ?_
    obtain ⟨g2, h⟩ := h
    obtain ⟨g3, h⟩ := h
    refine (zq_bald2 (v := (mA m (mR m 714 a0) (Int.toNat a1))) dX11_pass_29 (by first | rfl | simp only [zm_Is, zm_Rs, zm_As, zm_Os, zm_In0, zm_Rn0])).mpr ⟨⟨g2, g3⟩, ?_⟩
    refine (zq_if_eq (t := 57) dX11_pass_30 rfl).mpr ⟨fun c => ?_, fun c => ?_⟩
    · replace h := h.1 c
      refine (zq_iinc dX11_pass_57 rfl rfl).mpr ?_
      refine (zq_goto (t := 16) dX11_pass_60 rfl).mpr ?_
      exact h
    · replace h := h.2 c
      refine (zq_aload_n dX11_pass_33 rfl).mpr ?_
      refine (zq_getR2 (f := 726) (v := (mR m 726 a0)) dX11_pass_34 fl_11_70 (by decide) rfl rfl (by first | rfl | simp only [zm_Is, zm_Rs, zm_As, zm_Os, zm_In0, zm_Rn0])).mpr ⟨g1, ?_⟩
      refine (zq_iload_n dX11_pass_37 rfl).mpr ?_
      obtain ⟨g4, h⟩ := h
      obtain ⟨g5, h⟩ := h
      refine (zq_iald2 (v := (mA m (mR m 726 a0) (Int.toNat a1))) dX11_pass_38 (by first | rfl | simp only [zm_Is, zm_Rs, zm_As, zm_Os, zm_In0, zm_Rn0])).mpr ⟨⟨g4, g5⟩, ?_⟩
      refine (zq_iconst dX11_pass_39 (by decide)).mpr ?_
      refine (zq_icmp_eq (t := 52) dX11_pass_40 rfl).mpr ⟨fun c => ?_, fun c => ?_⟩
      · replace h := h.1 c
        refine (zq_aload_n dX11_pass_52 rfl).mpr ?_
        refine (zq_iload_n dX11_pass_53 rfl).mpr ?_
        refine zq_virtualV (n := 1) dX11_pass_54 mr_11_170 zn_148 rfl rfl rfl (zrcv_R zo_148 (by decide) g1) (Nat.le_of_ble_eq_true rfl) ?_
        refine h.mono (fun r m6 h => ?_)
        obtain ⟨rfl, h⟩ := h
        refine ⟨rfl, ?_⟩
        refine (zq_iinc dX11_pass_57 rfl rfl).mpr ?_
        refine (zq_goto (t := 16) dX11_pass_60 rfl).mpr ?_
        exact h
      · replace h := h.2 c
        refine (zq_aload_n dX11_pass_43 rfl).mpr ?_
        refine (zq_getR2 (f := 728) (v := (mR m 728 a0)) dX11_pass_44 fl_11_76 (by decide) rfl rfl (by first | rfl | simp only [zm_Is, zm_Rs, zm_As, zm_Os, zm_In0, zm_Rn0])).mpr ⟨g1, ?_⟩
        refine (zq_iload_n dX11_pass_47 rfl).mpr ?_
        obtain ⟨g8, h⟩ := h
        obtain ⟨g9, h⟩ := h
        refine (zq_bald2 (v := (mA m (mR m 728 a0) (Int.toNat a1))) dX11_pass_48 (by first | rfl | simp only [zm_Is, zm_Rs, zm_As, zm_Os, zm_In0, zm_Rn0])).mpr ⟨⟨g8, g9⟩, ?_⟩
        refine (zq_if_ne (t := 57) dX11_pass_49 rfl).mpr ⟨fun c => ?_, fun c => ?_⟩
        · replace h := h.1 c
          refine (zq_iinc dX11_pass_57 rfl rfl).mpr ?_
          refine (zq_goto (t := 16) dX11_pass_60 rfl).mpr ?_
          exact h
        · replace h := h.2 c
          refine (zq_aload_n dX11_pass_52 rfl).mpr ?_
          refine (zq_iload_n dX11_pass_53 rfl).mpr ?_
          refine zq_virtualV (n := 1) dX11_pass_54 mr_11_170 zn_148 rfl rfl rfl (zrcv_R zo_148 (by decide) g1) (Nat.le_of_ble_eq_true rfl) ?_
          refine h.mono (fun r m10 h => ?_)
          obtain ⟨rfl, h⟩ := h
          refine ⟨rfl, ?_⟩
          refine (zq_iinc dX11_pass_57 rfl rfl).mpr ?_
          refine (zq_goto (t := 16) dX11_pass_60 rfl).mpr ?_
          exact h
theorem bX11_pass_65 {a0 : Nat} {a1 : Int} (h : (mC m a0 = 12) ∧ (((mI m 705 a0) ≤ a1 → Q (.inl none) m) ∧ (¬ ((mI m 705 a0) ≤ a1) → (((wr ((mI m 704 a0) - wr (wr (Int.tdiv (mI m 704 a0) 5) * 5))) ≠ 0 → Q (.inl none) m) ∧ (¬ ((wr ((mI m 704 a0) - wr (wr (Int.tdiv (mI m 704 a0) 5) * 5))) ≠ 0) → (mC m (mR m 707 a0) = 20) ∧ (0 ≤ a1 ∧ a1 < mN m (mR m 707 a0)) ∧ (((mA m (mR m 707 a0) (Int.toNat a1)) ≤ 0 → zW xs xl d cX11_pass 11 (none) false [] 65 [zR a0, zI (wr (a1 + 1))] [] m Q) ∧ (¬ ((mA m (mR m 707 a0) (Int.toNat a1)) ≤ 0) → (mC m (mR m 708 a0) = 20) ∧ (0 ≤ a1 ∧ a1 < mN m (mR m 708 a0)) ∧ zC xs xl d 220 [zI (wr (15 - (mA m (mR m 708 a0) (Int.toNat a1))))] m (fun r m6 => ∃ v7 : Int, r = .inl (some (zI v7)) ∧ (0 ≤ a1 ∧ a1 < mN m6 (mR m 708 a0)) ∧ (mC m6 (mR m 708 a0) = 20) ∧ zW xs xl d cX11_pass 11 (none) false [] 65 [zR a0, zI (wr (a1 + 1))] [] (sA m6 (mR m 708 a0) (Int.toNat a1) (wr ((mA m (mR m 708 a0) (Int.toNat a1)) + v7))) Q)))))))) : zW xs xl d cX11_pass 11 (none) false [] 65 [zR a0, zI a1] [] m Q := by
  refine (zq_iload_n dX11_pass_65 rfl).mpr ?_
  refine (zq_aload_n dX11_pass_66 rfl).mpr ?_
  obtain ⟨g1, h⟩ := h
  refine (zq_getI2 (f := 705) (v := (mI m 705 a0)) dX11_pass_67 fl_11_113 (by decide) rfl rfl (by first | rfl | simp only [zm_Is, zm_Rs, zm_As, zm_Os, zm_In0, zm_Rn0])).mpr ⟨g1, ?_⟩
  refine (zq_icmp_ge (t := 118) dX11_pass_70 rfl).mpr ⟨fun c => ?_, fun c => ?_⟩
  · replace h := h.1 c
    exact (zq_ret dX11_pass_118 rfl).mpr h
  · replace h := h.2 c
    refine (zq_aload_n dX11_pass_73 rfl).mpr ?_
    refine (zq_getI2 (f := 704) (v := (mI m 704 a0)) dX11_pass_74 fl_11_109 (by decide) rfl rfl (by first | rfl | simp only [zm_Is, zm_Rs, zm_As, zm_Os, zm_In0, zm_Rn0])).mpr ⟨g1, ?_⟩
    refine (zq_iconst dX11_pass_77 (by decide)).mpr ?_
    refine (zq_irem dX11_pass_78).mpr ⟨by decide, ?_⟩
    refine (zq_if_ne (t := 118) dX11_pass_79 rfl).mpr ⟨fun c => ?_, fun c => ?_⟩
    · replace h := h.1 c
      exact (zq_ret dX11_pass_118 rfl).mpr h
    · replace h := h.2 c
      refine (zq_aload_n dX11_pass_82 rfl).mpr ?_
      refine (zq_getR2 (f := 707) (v := (mR m 707 a0)) dX11_pass_83 fl_11_15 (by decide) rfl rfl (by first | rfl | simp only [zm_Is, zm_Rs, zm_As, zm_Os, zm_In0, zm_Rn0])).mpr ⟨g1, ?_⟩
      refine (zq_iload_n dX11_pass_86 rfl).mpr ?_
      obtain ⟨g2, h⟩ := h
      obtain ⟨g3, h⟩ := h
      refine (zq_iald2 (v := (mA m (mR m 707 a0) (Int.toNat a1))) dX11_pass_87 (by first | rfl | simp only [zm_Is, zm_Rs, zm_As, zm_Os, zm_In0, zm_Rn0])).mpr ⟨⟨g2, g3⟩, ?_⟩
      refine (zq_if_le (t := 112) dX11_pass_88 rfl).mpr ⟨fun c => ?_, fun c => ?_⟩
      · replace h := h.1 c
        refine (zq_iinc dX11_pass_112 rfl rfl).mpr ?_
        refine (zq_goto (t := 65) dX11_pass_115 rfl).mpr ?_
        exact h
      · replace h := h.2 c
        refine (zq_aload_n dX11_pass_91 rfl).mpr ?_
        refine (zq_getR2 (f := 708) (v := (mR m 708 a0)) dX11_pass_92 fl_11_18 (by decide) rfl rfl (by first | rfl | simp only [zm_Is, zm_Rs, zm_As, zm_Os, zm_In0, zm_Rn0])).mpr ⟨g1, ?_⟩
        refine (zq_iload_n dX11_pass_95 rfl).mpr ?_
        refine (zq_dup2IR dX11_pass_96).mpr ?_
        obtain ⟨g4, h⟩ := h
        obtain ⟨g5, h⟩ := h
        refine (zq_iald2 (v := (mA m (mR m 708 a0) (Int.toNat a1))) dX11_pass_97 (by first | rfl | simp only [zm_Is, zm_Rs, zm_As, zm_Os, zm_In0, zm_Rn0])).mpr ⟨⟨g4, g5⟩, ?_⟩
        refine (zq_bipush dX11_pass_98 (by decide)).mpr ?_
        refine (zq_aload_n dX11_pass_100 rfl).mpr ?_
        refine (zq_getR2 (f := 708) (v := (mR m 708 a0)) dX11_pass_101 fl_11_18 (by decide) rfl rfl (by first | rfl | simp only [zm_Is, zm_Rs, zm_As, zm_Os, zm_In0, zm_Rn0])).mpr ⟨g1, ?_⟩
        refine (zq_iload_n dX11_pass_104 rfl).mpr ?_
        refine (zq_iald2 (v := (mA m (mR m 708 a0) (Int.toNat a1))) dX11_pass_105 (by first | rfl | simp only [zm_Is, zm_Rs, zm_As, zm_Os, zm_In0, zm_Rn0])).mpr ⟨⟨g4, g5⟩, ?_⟩
        refine (zq_isub dX11_pass_106).mpr ?_
        refine zq_staticI (n := 1) dX11_pass_107 mr_11_173 zn_220 rfl rfl (Nat.le_of_ble_eq_true rfl) (Nat.le_of_ble_eq_true rfl) ?_
        refine h.mono (fun r m6 h => ?_)
        obtain ⟨v7, rfl, h⟩ := h
        refine ⟨_, rfl, ?_⟩
        refine (zq_iadd dX11_pass_110).mpr ?_
        obtain ⟨g8, h⟩ := h
        obtain ⟨g9, h⟩ := h
        refine (zq_iast dX11_pass_111).mpr ⟨⟨g9, g8⟩, ?_⟩
        refine (zq_iinc dX11_pass_112 rfl rfl).mpr ?_
        refine (zq_goto (t := 65) dX11_pass_115 rfl).mpr ?_
        exact h
end ZB5
