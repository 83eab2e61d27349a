/-! What a base gives, all blocks keep: by a program (wip/p1/genmono.py). -/
theorem mobm_0 : xBm bm_0 := fun dl fs i1 i2 fin hi => (m_aload (m_obj (m_aload (m_iconst (m_newa (m_putr (m_aload (m_iconst (m_newa (m_putr (m_aload (m_iconst (m_newa (m_putr (m_aload (m_iconst (m_newa (m_putr (m_aload (m_iconst (m_newa (m_putr (m_xgo hi)))))))))))))))))))))))
theorem mobm_1 : xBm bm_1 := fun dl fs i1 i2 fin hi => (m_istore (m_ret hi))
theorem mobm_2 : xBm bm_2 := fun dl fs i1 i2 fin hi => (m_aload (m_geti (m_if1 (m_xgo hi) (m_aload (m_callv hi)))))
theorem mobm_3 : xBm bm_3 := fun dl fs i1 i2 fin hi => (m_iconst (m_if2 (m_xgo hi) (m_aload (m_callv hi))))
theorem mobm_4 : xBm bm_4 := fun dl fs i1 i2 fin hi => (m_iret hi)
theorem mobm_5 : xBm bm_5 := fun dl fs i1 i2 fin hi => (m_aload (m_iconst (m_aload (m_geti (m_aload (m_getr (m_aload (m_geti (m_ald (m_callv hi))))))))))
theorem mobm_6 : xBm bm_6 := fun dl fs i1 i2 fin hi => (m_istore (m_iload (m_istore (m_aload (m_dup (m_geti (m_iconst (m_bin (m_puti (m_aload (m_iconst (m_callv hi))))))))))))
theorem mobm_7 : xBm bm_7 := fun dl fs i1 i2 fin hi => (m_if1 (m_xgo hi) m_no)
theorem mobm_8 : xBm bm_8 := fun dl fs i1 i2 fin hi => (m_iload (m_iret hi))
theorem mobm_9 : xBm bm_9 := fun dl fs i1 i2 fin hi => (m_aload (m_geti (m_istore (m_aload (m_geti (m_if1 (m_xgo hi) m_no))))))
theorem mobm_10 : xBm bm_10 := fun dl fs i1 i2 fin hi => (m_aload (m_callv hi))
theorem mobm_11 : xBm bm_11 := fun dl fs i1 i2 fin hi => (m_iconst (m_if2 (m_xgo hi) (m_aload (m_callv hi))))
theorem mobm_12 : xBm bm_12 := fun dl fs i1 i2 fin hi => (m_iconst (m_if2 (m_xgo hi) (m_aload (m_aload (m_callv hi)))))
theorem mobm_13 : xBm bm_13 := fun dl fs i1 i2 fin hi => (m_iconst (m_if2 (m_xgo hi) m_no))
theorem mobm_14 : xBm bm_14 := fun dl fs i1 i2 fin hi => (m_iconst (m_aload (m_geti (m_aload (m_getr (m_aload (m_geti (m_ald (m_callv hi)))))))))
theorem mobm_15 : xBm bm_15 := fun dl fs i1 i2 fin hi => (m_istore (m_aload (m_dup (m_geti (m_iconst (m_bin (m_puti (m_iload (m_iret hi)))))))))
theorem mobm_16 : xBm bm_16 := fun dl fs i1 i2 fin hi => (m_aload (m_callv hi))
theorem mobm_17 : xBm bm_17 := fun dl fs i1 i2 fin hi => (m_iconst (m_if2 (m_xgo hi) (m_aload (m_callv hi))))
theorem mobm_18 : xBm bm_18 := fun dl fs i1 i2 fin hi => (m_aload (m_iconst (m_iload (m_iconst (m_callv hi)))))
theorem mobm_19 : xBm bm_19 := fun dl fs i1 i2 fin hi => (m_istore (m_aload (m_getr (m_iload (m_aload (m_callv hi))))))
theorem mobm_20 : xBm bm_20 := fun dl fs i1 i2 fin hi => (m_ast (m_aload (m_iconst (m_callv hi))))
theorem mobm_21 : xBm bm_21 := fun dl fs i1 i2 fin hi => (m_iload (m_iret hi))
theorem mobm_22 : xBm bm_22 := fun dl fs i1 i2 fin hi => (m_aload (m_callv hi))
theorem mobm_23 : xBm bm_23 := fun dl fs i1 i2 fin hi => (m_iconst (m_if2 (m_xgo hi) m_no))
theorem mobm_24 : xBm bm_24 := fun dl fs i1 i2 fin hi => (m_aload (m_callv hi))
theorem mobm_25 : xBm bm_25 := fun dl fs i1 i2 fin hi => (m_aload (m_iconst (m_callv hi)))
theorem mobm_26 : xBm bm_26 := fun dl fs i1 i2 fin hi => (m_if1 (m_xgo hi) m_no)
theorem mobm_27 : xBm bm_27 := fun dl fs i1 i2 fin hi => (m_aload (m_callv hi))
theorem mobm_28 : xBm bm_28 := fun dl fs i1 i2 fin hi => (m_istore (m_aload (m_geti (m_if1 (m_xgo hi) (m_aload (m_callv hi))))))
theorem mobm_29 : xBm bm_29 := fun dl fs i1 i2 fin hi => (m_iconst (m_if2 (m_xgo hi) m_no))
theorem mobm_30 : xBm bm_30 := fun dl fs i1 i2 fin hi => (m_aload (m_iconst (m_callv hi)))
theorem mobm_31 : xBm bm_31 := fun dl fs i1 i2 fin hi => (m_aload (m_geti (m_if1 (m_xgo hi) (m_aload (m_getr (m_iload (m_ald (m_iconst (m_if2 (m_xgo hi) (m_aload (m_getr (m_iload (m_ald (m_iconst (m_if2 (m_xgo hi) (m_aload (m_getr (m_iload (m_iconst (m_ast (m_iload (m_iret hi))))))))))))))))))))))
theorem mobm_32 : xBm bm_32 := fun dl fs i1 i2 fin hi => (m_aload (m_getr (m_aload (m_geti (m_iload (m_ast (m_aload (m_getr (m_aload (m_geti (m_iload (m_ast (m_aload (m_getr (m_aload (m_geti (m_iload (m_ast (m_aload (m_getr (m_aload (m_geti (m_xgo hi)))))))))))))))))))))))
theorem mobm_33 : xBm bm_33 := fun dl fs i1 i2 fin hi => (m_aload (m_getr (m_aload (m_getr (m_iload (m_ald (m_ald (m_if1 (m_xgo hi) m_no))))))))
theorem mobm_34 : xBm bm_34 := fun dl fs i1 i2 fin hi => (m_aload (m_geti (m_istore (m_aload (m_aload (m_getr (m_iload (m_ald (m_aload (m_getr (m_iload (m_ald (m_callv hi)))))))))))))
theorem mobm_35 : xBm bm_35 := fun dl fs i1 i2 fin hi => (m_aload (m_getr (m_aload (m_getr (m_iload (m_ald (m_ald (m_if1 (m_xgo hi) (m_aload (m_getr (m_aload (m_getr (m_iload (m_ald (m_iload (m_ast (m_aload (m_getr (m_iload (m_ald (m_istore (m_xgo hi))))))))))))))))))))))
theorem mobm_36 : xBm bm_36 := fun dl fs i1 i2 fin hi => (m_iload (m_if1 (m_xgo hi) (m_aload (m_getr (m_iload (m_ald (m_iconst (m_if2 (m_xgo hi) m_no))))))))
theorem mobm_37 : xBm bm_37 := fun dl fs i1 i2 fin hi => (m_aload (m_getr (m_aload (m_getr (m_iload (m_ald (m_ald (m_if1 (m_xgo hi) m_no))))))))
theorem mobm_38 : xBm bm_38 := fun dl fs i1 i2 fin hi => (m_aload (m_getr (m_aload (m_getr (m_iload (m_ald (m_aload (m_geti (m_ast (m_aload (m_aload (m_getr (m_iload (m_ald (m_iload (m_iload (m_aload (m_iload (m_callv hi)))))))))))))))))))
theorem mobm_39 : xBm bm_39 := fun dl fs i1 i2 fin hi => (m_callv hi)
theorem mobm_40 : xBm bm_40 := fun dl fs i1 i2 fin hi => (m_aload (m_getr (m_iload (m_ald (m_istore (m_xgo hi))))))
theorem mobm_41 : xBm bm_41 := fun dl fs i1 i2 fin hi => (m_ret hi)
theorem mobm_42 : xBm bm_42 := fun dl fs i1 i2 fin hi => (m_aload (m_getr (m_aload (m_getr (m_iload (m_ald (m_ald (m_if1 (m_xgo hi) m_no))))))))
theorem mobm_43 : xBm bm_43 := fun dl fs i1 i2 fin hi => (m_aload (m_getr (m_aload (m_getr (m_iload (m_ald (m_aload (m_geti (m_ast (m_aload (m_getr (m_aload (m_geti (m_aload (m_getr (m_iload (m_ald (m_ast (m_aload (m_getr (m_aload (m_geti (m_xgo hi)))))))))))))))))))))))
theorem mobm_44 : xBm bm_44 := fun dl fs i1 i2 fin hi => (m_aload (m_getr (m_aload (m_geti (m_iload (m_ast (m_aload (m_getr (m_aload (m_geti (m_iload (m_ast (m_aload (m_getr (m_aload (m_geti (m_aload (m_geti (m_ast (m_aload (m_getr (m_aload (m_xgo hi)))))))))))))))))))))))
theorem mobm_45 : xBm bm_45 := fun dl fs i1 i2 fin hi => (m_iconst (m_istore (m_iload (m_aload (m_geti (m_if2 (m_xgo hi) (m_aload (m_getr (m_iload (m_ald (m_iconst (m_if2 (m_xgo hi) (m_aload (m_getr (m_aload (m_getr (m_iload (m_ald (m_ald (m_iconst (m_if2 (m_xgo hi) (m_aload (m_xgo hi)))))))))))))))))))))))
theorem mobm_46 : xBm bm_46 := fun dl fs i1 i2 fin hi => (m_iload (m_aload (m_geti (m_if2 (m_xgo hi) (m_aload (m_getr (m_iload (m_ald (m_iconst (m_if2 (m_xgo hi) (m_aload (m_getr (m_aload (m_getr (m_iload (m_ald (m_ald (m_iconst (m_if2 (m_xgo hi) (m_aload (m_getr (m_aload (m_xgo hi)))))))))))))))))))))))
theorem mobm_47 : xBm bm_47 := fun dl fs i1 i2 fin hi => (m_aload (m_iload (m_callv hi)))
theorem mobm_48 : xBm bm_48 := fun dl fs i1 i2 fin hi => (m_if1 (m_xgo hi) (m_aload (m_getr (m_aload (m_getr (m_iload (m_ald (m_iconst (m_ast (m_aload (m_getr (m_aload (m_getr (m_iload (m_ald (m_iconst (m_ast (m_xgo hi))))))))))))))))))
theorem mobm_49 : xBm bm_49 := fun dl fs i1 i2 fin hi => (m_iinc (m_xgo hi))
theorem mobm_50 : xBm bm_50 := fun dl fs i1 i2 fin hi => (m_ret hi)
theorem mobm_51 : xBm bm_51 := fun dl fs i1 i2 fin hi => (m_iload (m_istore (m_iload (m_aload (m_geti (m_if2 (m_xgo hi) (m_aload (m_getr (m_iload (m_aload (m_getr (m_iload (m_ald (m_if1 (m_xgo hi) (m_aload (m_aload (m_getr (m_iload (m_ald (m_callv hi))))))))))))))))))))
theorem mobm_52 : xBm bm_52 := fun dl fs i1 i2 fin hi => (m_iload (m_aload (m_geti (m_if2 (m_xgo hi) (m_aload (m_getr (m_iload (m_aload (m_getr (m_iload (m_ald (m_if1 (m_xgo hi) (m_aload (m_aload (m_getr (m_iload (m_ald (m_callv hi))))))))))))))))))
theorem mobm_53 : xBm bm_53 := fun dl fs i1 i2 fin hi => (m_xgo hi)
theorem mobm_54 : xBm bm_54 := fun dl fs i1 i2 fin hi => (m_iconst (m_aload (m_aload (m_getr (m_aload (m_getr (m_iload (m_ald (m_ald (m_callv hi))))))))))
theorem mobm_55 : xBm bm_55 := fun dl fs i1 i2 fin hi => (m_mmin (m_ast (m_iinc (m_xgo hi))))
theorem mobm_56 : xBm bm_56 := fun dl fs i1 i2 fin hi => (m_ast (m_iinc (m_xgo hi)))
theorem mobm_57 : xBm bm_57 := fun dl fs i1 i2 fin hi => (m_ret hi)
theorem mobm_58 : xBm bm_58 := fun dl fs i1 i2 fin hi => (m_iconst (m_istore (m_iload (m_istore (m_aload (m_getr (m_iload (m_ald (m_iconst (m_if2 (m_xgo hi) (m_aload (m_getr (m_iload (m_ald (m_iconst (m_if2 (m_xgo hi) (m_aload (m_getr (m_iload (m_ald (m_if1 (m_xgo hi) (m_iinc (m_xgo hi)))))))))))))))))))))))
theorem mobm_59 : xBm bm_59 := fun dl fs i1 i2 fin hi => (m_aload (m_getr (m_iload (m_ald (m_iconst (m_if2 (m_xgo hi) (m_aload (m_getr (m_iload (m_ald (m_iconst (m_if2 (m_xgo hi) (m_aload (m_getr (m_iload (m_ald (m_if1 (m_xgo hi) (m_iinc (m_aload (m_getr (m_aload (m_getr (m_xgo hi)))))))))))))))))))))))
theorem mobm_60 : xBm bm_60 := fun dl fs i1 i2 fin hi => (m_iload (m_iret hi))
theorem mobm_61 : xBm bm_61 := fun dl fs i1 i2 fin hi => (m_aload (m_geti (m_istore (m_aload (m_geti (m_if1 (m_xgo hi) m_no))))))
theorem mobm_62 : xBm bm_62 := fun dl fs i1 i2 fin hi => (m_aload (m_iconst (m_callv hi)))
theorem mobm_63 : xBm bm_63 := fun dl fs i1 i2 fin hi => (m_if1 (m_xgo hi) (m_aload (m_iconst (m_iload (m_aload (m_getr (m_iload (m_ald (m_callv hi)))))))))
theorem mobm_64 : xBm bm_64 := fun dl fs i1 i2 fin hi => (m_iret hi)
theorem mobm_65 : xBm bm_65 := fun dl fs i1 i2 fin hi => (m_aload (m_iconst (m_callv hi)))
theorem mobm_66 : xBm bm_66 := fun dl fs i1 i2 fin hi => (m_if1 (m_xgo hi) (m_aload (m_iconst (m_iload (m_iconst (m_aload (m_getr (m_iload (m_ald (m_bin (m_callv hi)))))))))))
theorem mobm_67 : xBm bm_67 := fun dl fs i1 i2 fin hi => (m_iret hi)
theorem mobm_68 : xBm bm_68 := fun dl fs i1 i2 fin hi => (m_aload (m_iconst (m_callv hi)))
theorem mobm_69 : xBm bm_69 := fun dl fs i1 i2 fin hi => (m_if1 (m_xgo hi) m_no)
theorem mobm_70 : xBm bm_70 := fun dl fs i1 i2 fin hi => (m_aload (m_callv hi))
theorem mobm_71 : xBm bm_71 := fun dl fs i1 i2 fin hi => (m_iconst (m_if2 (m_xgo hi) (m_aload (m_callv hi))))
theorem mobm_72 : xBm bm_72 := fun dl fs i1 i2 fin hi => (m_iret hi)
theorem mobm_73 : xBm bm_73 := fun dl fs i1 i2 fin hi => (m_aload (m_callv hi))
theorem mobm_74 : xBm bm_74 := fun dl fs i1 i2 fin hi => (m_iconst (m_if2 (m_xgo hi) m_no))
theorem mobm_75 : xBm bm_75 := fun dl fs i1 i2 fin hi => (m_aload (m_callv hi))
theorem mobm_76 : xBm bm_76 := fun dl fs i1 i2 fin hi => (m_aload (m_iconst (m_callv hi)))
theorem mobm_77 : xBm bm_77 := fun dl fs i1 i2 fin hi => (m_if1 (m_xgo hi) m_no)
theorem mobm_78 : xBm bm_78 := fun dl fs i1 i2 fin hi => (m_aload (m_geti (m_if1 (m_xgo hi) (m_aload (m_aload (m_geti (m_callv hi)))))))
theorem mobm_79 : xBm bm_79 := fun dl fs i1 i2 fin hi => (m_if1 (m_xgo hi) m_no)
theorem mobm_80 : xBm bm_80 := fun dl fs i1 i2 fin hi => (m_aload (m_geti (m_if1 (m_xgo hi) m_no)))
theorem mobm_81 : xBm bm_81 := fun dl fs i1 i2 fin hi => (m_aload (m_callv hi))
theorem mobm_82 : xBm bm_82 := fun dl fs i1 i2 fin hi => (m_if1 (m_xgo hi) m_no)
theorem mobm_83 : xBm bm_83 := fun dl fs i1 i2 fin hi => (m_aload (m_iconst (m_callv hi)))
theorem mobm_84 : xBm bm_84 := fun dl fs i1 i2 fin hi => (m_istore (m_aload (m_geti (m_if1 (m_xgo hi) (m_aload (m_callv hi))))))
theorem mobm_85 : xBm bm_85 := fun dl fs i1 i2 fin hi => (m_iconst (m_if2 (m_xgo hi) m_no))
theorem mobm_86 : xBm bm_86 := fun dl fs i1 i2 fin hi => (m_aload (m_iconst (m_callv hi)))
theorem mobm_87 : xBm bm_87 := fun dl fs i1 i2 fin hi => (m_iload (m_iret hi))
theorem mobm_88 : xBm bm_88 := fun dl fs i1 i2 fin hi => (m_aload (m_geti (m_if1 (m_xgo hi) (m_aload (m_callv hi)))))
theorem mobm_89 : xBm bm_89 := fun dl fs i1 i2 fin hi => (m_iconst (m_if2 (m_xgo hi) (m_aload (m_callv hi))))
theorem mobm_90 : xBm bm_90 := fun dl fs i1 i2 fin hi => (m_iret hi)
theorem mobm_91 : xBm bm_91 := fun dl fs i1 i2 fin hi => (m_aload (m_iconst (m_aload (m_geti (m_aload (m_getr (m_aload (m_geti (m_ald (m_callv hi))))))))))
theorem mobm_92 : xBm bm_92 := fun dl fs i1 i2 fin hi => (m_istore (m_aload (m_dup (m_geti (m_iconst (m_bin (m_puti (m_iconst (m_istore (m_aload (m_geti (m_if1 (m_xgo hi) (m_aload (m_callv hi))))))))))))))
theorem mobm_93 : xBm bm_93 := fun dl fs i1 i2 fin hi => (m_if1 (m_xgo hi) m_no)
theorem mobm_94 : xBm bm_94 := fun dl fs i1 i2 fin hi => (m_iload (m_iret hi))
theorem mobm_95 : xBm bm_95 := fun dl fs i1 i2 fin hi => (m_iload (m_istore (m_iload (m_if1 (m_xgo hi) (m_aload (m_getr (m_iload (m_ald (m_iconst (m_if2 (m_xgo hi) (m_aload (m_getr (m_iload (m_ald (m_istore (m_xgo hi))))))))))))))))
theorem mobm_96 : xBm bm_96 := fun dl fs i1 i2 fin hi => (m_iload (m_if1 (m_xgo hi) (m_aload (m_getr (m_iload (m_ald (m_iconst (m_if2 (m_xgo hi) (m_aload (m_getr (m_iload (m_ald (m_istore (m_xgo hi))))))))))))))
theorem mobm_97 : xBm bm_97 := fun dl fs i1 i2 fin hi => (m_iload (m_iret hi))
theorem mobm_98 : xBm bm_98 := fun dl fs i1 i2 fin hi => (m_aload (m_iconst (m_puti (m_aload (m_iconst (m_puti (m_aload (m_iconst (m_puti (m_aload (m_iconst (m_puti (m_aload (m_iconst (m_puti (m_aload (m_iconst (m_iconst (m_callv hi)))))))))))))))))))
theorem mobm_99 : xBm bm_99 := fun dl fs i1 i2 fin hi => (m_iconst (m_istore (m_iload (m_iconst (m_if2 (m_xgo hi) (m_aload (m_iconst (m_iload (m_iconst (m_if2 (m_xgo hi) (m_iconst (m_xgo hi))))))))))))
theorem mobm_100 : xBm bm_100 := fun dl fs i1 i2 fin hi => (m_iload (m_iconst (m_if2 (m_xgo hi) (m_aload (m_iconst (m_iload (m_iconst (m_if2 (m_xgo hi) (m_iconst (m_xgo hi))))))))))
theorem mobm_101 : xBm bm_101 := fun dl fs i1 i2 fin hi => (m_iload (m_iconst (m_if2 (m_xgo hi) (m_iconst (m_xgo hi)))))
theorem mobm_102 : xBm bm_102 := fun dl fs i1 i2 fin hi => (m_iload (m_iconst (m_if2 (m_xgo hi) (m_iconst (m_xgo hi)))))
theorem mobm_103 : xBm bm_103 := fun dl fs i1 i2 fin hi => (m_iconst (m_callv hi))
theorem mobm_104 : xBm bm_104 := fun dl fs i1 i2 fin hi => (m_callv hi)
theorem mobm_105 : xBm bm_105 := fun dl fs i1 i2 fin hi => (m_iinc (m_xgo hi))
theorem mobm_106 : xBm bm_106 := fun dl fs i1 i2 fin hi => (m_aload (m_iconst (m_iconst (m_iconst (m_iconst (m_callv hi))))))
theorem mobm_107 : xBm bm_107 := fun dl fs i1 i2 fin hi => (m_aload (m_iconst (m_iconst (m_iconst (m_iconst (m_callv hi))))))
theorem mobm_108 : xBm bm_108 := fun dl fs i1 i2 fin hi => (m_aload (m_iconst (m_iconst (m_iconst (m_iconst (m_callv hi))))))
theorem mobm_109 : xBm bm_109 := fun dl fs i1 i2 fin hi => (m_aload (m_iconst (m_iconst (m_iconst (m_iconst (m_callv hi))))))
theorem mobm_110 : xBm bm_110 := fun dl fs i1 i2 fin hi => (m_aload (m_iconst (m_iconst (m_iconst (m_iconst (m_callv hi))))))
theorem mobm_111 : xBm bm_111 := fun dl fs i1 i2 fin hi => (m_aload (m_getr (m_iconst (m_iconst (m_ast (m_aload (m_getr (m_iconst (m_iconst (m_ast (m_aload (m_getr (m_iconst (m_iconst (m_ast (m_aload (m_getr (m_iconst (m_iconst (m_ast (m_ret hi)))))))))))))))))))))
theorem mobm_112 : xBm bm_112 := fun dl fs i1 i2 fin hi => (m_aload (m_callv hi))
theorem mobm_113 : xBm bm_113 := fun dl fs i1 i2 fin hi => (m_iconst (m_if2 (m_xgo hi) (m_aload (m_callv hi))))
theorem mobm_114 : xBm bm_114 := fun dl fs i1 i2 fin hi => (m_iconst (m_if2 (m_xgo hi) (m_aload (m_callv hi))))
theorem mobm_115 : xBm bm_115 := fun dl fs i1 i2 fin hi => (m_iconst (m_if2 (m_xgo hi) (m_aload (m_callv hi))))
theorem mobm_116 : xBm bm_116 := fun dl fs i1 i2 fin hi => (m_iconst (m_if2 (m_xgo hi) (m_aload (m_callv hi))))
theorem mobm_117 : xBm bm_117 := fun dl fs i1 i2 fin hi => (m_iconst (m_if2 (m_xgo hi) (m_iconst (m_xgo hi))))
theorem mobm_118 : xBm bm_118 := fun dl fs i1 i2 fin hi => (m_iconst (m_xgo hi))
theorem mobm_119 : xBm bm_119 := fun dl fs i1 i2 fin hi => (m_iconst (m_zret hi))
theorem mobm_120 : xBm bm_120 := fun dl fs i1 i2 fin hi => (m_zret hi)
theorem mobm_121 : xBm bm_121 := fun dl fs i1 i2 fin hi => (m_aload (m_callv hi))
theorem mobm_122 : xBm bm_122 := fun dl fs i1 i2 fin hi => (m_iconst (m_if2 (m_xgo hi) (m_aload (m_callv hi))))
theorem mobm_123 : xBm bm_123 := fun dl fs i1 i2 fin hi => (m_iconst (m_if2 (m_xgo hi) (m_aload (m_aload (m_geti (m_callv hi))))))
theorem mobm_124 : xBm bm_124 := fun dl fs i1 i2 fin hi => (m_if1 (m_xgo hi) (m_iconst (m_xgo hi)))
theorem mobm_125 : xBm bm_125 := fun dl fs i1 i2 fin hi => (m_iconst (m_zret hi))
theorem mobm_126 : xBm bm_126 := fun dl fs i1 i2 fin hi => (m_zret hi)
theorem mobm_127 : xBm bm_127 := fun dl fs i1 i2 fin hi => (m_aload (m_callv hi))
theorem mobm_128 : xBm bm_128 := fun dl fs i1 i2 fin hi => (m_iconst (m_if2 (m_xgo hi) (m_aload (m_callv hi))))
theorem mobm_129 : xBm bm_129 := fun dl fs i1 i2 fin hi => (m_iconst (m_if2 (m_xgo hi) (m_aload (m_callv hi))))
theorem mobm_130 : xBm bm_130 := fun dl fs i1 i2 fin hi => (m_iconst (m_if2 (m_xgo hi) (m_aload (m_callv hi))))
theorem mobm_131 : xBm bm_131 := fun dl fs i1 i2 fin hi => (m_iconst (m_if2 (m_xgo hi) (m_aload (m_callv hi))))
theorem mobm_132 : xBm bm_132 := fun dl fs i1 i2 fin hi => (m_iconst (m_if2 (m_xgo hi) (m_aload (m_callv hi))))
theorem mobm_133 : xBm bm_133 := fun dl fs i1 i2 fin hi => (m_iconst (m_if2 (m_xgo hi) (m_iconst (m_xgo hi))))
theorem mobm_134 : xBm bm_134 := fun dl fs i1 i2 fin hi => (m_iconst (m_xgo hi))
theorem mobm_135 : xBm bm_135 := fun dl fs i1 i2 fin hi => (m_iconst (m_zret hi))
theorem mobm_136 : xBm bm_136 := fun dl fs i1 i2 fin hi => (m_zret hi)
theorem mobm_137 : xBm bm_137 := fun dl fs i1 i2 fin hi => (m_aload (m_callv hi))
theorem mobm_138 : xBm bm_138 := fun dl fs i1 i2 fin hi => (m_iconst (m_if2 (m_xgo hi) (m_aload (m_callv hi))))
theorem mobm_139 : xBm bm_139 := fun dl fs i1 i2 fin hi => (m_iconst (m_if2 (m_xgo hi) (m_aload (m_callv hi))))
theorem mobm_140 : xBm bm_140 := fun dl fs i1 i2 fin hi => (m_iconst (m_if2 (m_xgo hi) (m_aload (m_callv hi))))
theorem mobm_141 : xBm bm_141 := fun dl fs i1 i2 fin hi => (m_iconst (m_if2 (m_xgo hi) (m_aload (m_callv hi))))
theorem mobm_142 : xBm bm_142 := fun dl fs i1 i2 fin hi => (m_iconst (m_if2 (m_xgo hi) (m_iconst (m_xgo hi))))
theorem mobm_143 : xBm bm_143 := fun dl fs i1 i2 fin hi => (m_iconst (m_xgo hi))
theorem mobm_144 : xBm bm_144 := fun dl fs i1 i2 fin hi => (m_iconst (m_zret hi))
theorem mobm_145 : xBm bm_145 := fun dl fs i1 i2 fin hi => (m_zret hi)
theorem mobm_146 : xBm bm_146 := fun dl fs i1 i2 fin hi => (m_aload (m_callv hi))
theorem mobm_147 : xBm bm_147 := fun dl fs i1 i2 fin hi => (m_iconst (m_if2 m_no (m_aload (m_callv hi))))
theorem mobm_148 : xBm bm_148 := fun dl fs i1 i2 fin hi => (m_iconst (m_if2 m_no (m_aload (m_callv hi))))
theorem mobm_149 : xBm bm_149 := fun dl fs i1 i2 fin hi => (m_iconst (m_if2 m_no (m_aload (m_callv hi))))
theorem mobm_150 : xBm bm_150 := fun dl fs i1 i2 fin hi => (m_iconst (m_if2 (m_xgo hi) m_no))
theorem mobm_151 : xBm bm_151 := fun dl fs i1 i2 fin hi => (m_iconst (m_zret hi))
theorem mobm_152 : xBm bm_152 := fun dl fs i1 i2 fin hi => (m_iload (m_istore (m_iload (m_aload (m_geti (m_if2 (m_xgo hi) (m_aload (m_getr (m_iload (m_ald (m_iconst (m_if2 (m_xgo hi) (m_xgo hi)))))))))))))
theorem mobm_153 : xBm bm_153 := fun dl fs i1 i2 fin hi => (m_iload (m_aload (m_geti (m_if2 (m_xgo hi) (m_aload (m_getr (m_iload (m_ald (m_iconst (m_if2 (m_xgo hi) (m_xgo hi)))))))))))
theorem mobm_154 : xBm bm_154 := fun dl fs i1 i2 fin hi => (m_aload (m_iload (m_callv hi)))
theorem mobm_155 : xBm bm_155 := fun dl fs i1 i2 fin hi => (m_istore (m_aload (m_iconst (m_iload (m_callv hi)))))
theorem mobm_156 : xBm bm_156 := fun dl fs i1 i2 fin hi => (m_istore (m_aload (m_getr (m_iload (m_iconst (m_ast (m_aload (m_getr (m_iload (m_aload (m_getr (m_iload (m_ald (m_ast (m_aload (m_getr (m_iload (m_aload (m_getr (m_iload (m_ald (m_ast (m_xgo hi)))))))))))))))))))))))
theorem mobm_157 : xBm bm_157 := fun dl fs i1 i2 fin hi => (m_iinc (m_xgo hi))
theorem mobm_158 : xBm bm_158 := fun dl fs i1 i2 fin hi => (m_ret hi)
theorem mobm_159 : xBm bm_159 := fun dl fs i1 i2 fin hi => (m_aload (m_iconst (m_aload (m_getr (m_iload (m_ald (m_callv hi)))))))
theorem mobm_160 : xBm bm_160 := fun dl fs i1 i2 fin hi => (m_istore (m_aload (m_aload (m_getr (m_iload (m_ald (m_aload (m_getr (m_iload (m_ald (m_callv hi)))))))))))
theorem mobm_161 : xBm bm_161 := fun dl fs i1 i2 fin hi => (m_istore (m_aload (m_getr (m_iload (m_aload (m_getr (m_iload (m_ald (m_iconst (m_if2 (m_xgo hi) m_no))))))))))
theorem mobm_162 : xBm bm_162 := fun dl fs i1 i2 fin hi => (m_iconst (m_ast (m_iconst (m_istore (m_aload (m_getr (m_iload (m_ald (m_if1 (m_xgo hi) m_no)))))))))
theorem mobm_163 : xBm bm_163 := fun dl fs i1 i2 fin hi => (m_aload (m_getr (m_aload (m_getr (m_iload (m_ald (m_ald (m_istore (m_aload (m_getr (m_iload (m_ald (m_istore (m_xgo hi))))))))))))))
theorem mobm_164 : xBm bm_164 := fun dl fs i1 i2 fin hi => (m_iload (m_aload (m_getr (m_iload (m_ald (m_aload (m_getr (m_iload (m_ald (m_bin (m_if2 (m_xgo hi) (m_iconst (m_istore (m_iload (m_istore (m_xgo hi))))))))))))))))
theorem mobm_165 : xBm bm_165 := fun dl fs i1 i2 fin hi => (m_iload (m_iload (m_if2 (m_xgo hi) (m_iload (m_if1 (m_xgo hi) (m_aload (m_getr (m_aload (m_aload (m_getr (m_iload (m_ald (m_aload (m_getr (m_iload (m_ald (m_callv hi)))))))))))))))))
theorem mobm_166 : xBm bm_166 := fun dl fs i1 i2 fin hi => (m_ald (m_iload (m_if2 (m_xgo hi) (m_iconst (m_xgo hi)))))
theorem mobm_167 : xBm bm_167 := fun dl fs i1 i2 fin hi => (m_iconst (m_xgo hi))
theorem mobm_168 : xBm bm_168 := fun dl fs i1 i2 fin hi => (m_iconst (m_istore (m_iinc (m_xgo hi))))
theorem mobm_169 : xBm bm_169 := fun dl fs i1 i2 fin hi => (m_istore (m_iinc (m_xgo hi)))
theorem mobm_170 : xBm bm_170 := fun dl fs i1 i2 fin hi => (m_iload (m_if1 (m_xgo hi) (m_aload (m_iload (m_iload (m_iload (m_aload (m_getr (m_iload (m_ald (m_iload (m_iload (m_iload (m_iload (m_iload (m_callv hi))))))))))))))))
theorem mobm_171 : xBm bm_171 := fun dl fs i1 i2 fin hi => (m_istore (m_iinc (m_xgo hi)))
theorem mobm_172 : xBm bm_172 := fun dl fs i1 i2 fin hi => (m_iinc (m_xgo hi))
theorem mobm_173 : xBm bm_173 := fun dl fs i1 i2 fin hi => (m_iload (m_iret hi))
theorem mobm_174 : xBm bm_174 := fun dl fs i1 i2 fin hi => (m_iload (m_iload (m_if2 (m_xgo hi) (m_aload (m_getr (m_iload (m_ald (m_iret hi))))))))
theorem mobm_175 : xBm bm_175 := fun dl fs i1 i2 fin hi => (m_iload (m_istore (m_iload (m_iconst (m_bin (m_istore (m_iload (m_iload (m_if2 (m_xgo hi) (m_aload (m_aload (m_getr (m_iload (m_ald (m_callv hi)))))))))))))))
theorem mobm_176 : xBm bm_176 := fun dl fs i1 i2 fin hi => (m_iload (m_iload (m_if2 (m_xgo hi) (m_aload (m_aload (m_getr (m_iload (m_ald (m_callv hi)))))))))
theorem mobm_177 : xBm bm_177 := fun dl fs i1 i2 fin hi => (m_istore (m_aload (m_aload (m_getr (m_iload (m_ald (m_callv hi)))))))
theorem mobm_178 : xBm bm_178 := fun dl fs i1 i2 fin hi => (m_istore (m_iload (m_iload (m_if2 m_no (m_iload (m_iload (m_if2 (m_xgo hi) (m_aload (m_aload (m_getr (m_iload (m_ald (m_callv hi)))))))))))))
theorem mobm_179 : xBm bm_179 := fun dl fs i1 i2 fin hi => (m_iconst (m_if2 (m_xgo hi) m_no))
theorem mobm_180 : xBm bm_180 := fun dl fs i1 i2 fin hi => (m_iload (m_istore (m_iinc (m_xgo hi))))
theorem mobm_181 : xBm bm_181 := fun dl fs i1 i2 fin hi => (m_aload (m_iload (m_iload (m_callv hi))))
theorem mobm_182 : xBm bm_182 := fun dl fs i1 i2 fin hi => (m_istore (m_aload (m_iload (m_iconst (m_bin (m_iload (m_callv hi)))))))
theorem mobm_183 : xBm bm_183 := fun dl fs i1 i2 fin hi => (m_istore (m_aload (m_getr (m_iload (m_ald (m_istore (m_aload (m_getr (m_iload (m_aload (m_getr (m_iload (m_ald (m_iconst (m_if2 (m_xgo hi) (m_iconst (m_xgo hi)))))))))))))))))
theorem mobm_184 : xBm bm_184 := fun dl fs i1 i2 fin hi => (m_iconst (m_ast (m_aload (m_getr (m_iload (m_iconst (m_ast (m_aload (m_getr (m_iload (m_iload (m_ast (m_aload (m_getr (m_iload (m_iload (m_ast (m_aload (m_getr (m_iload (m_iconst (m_ast (m_xgo hi)))))))))))))))))))))))
theorem mobm_185 : xBm bm_185 := fun dl fs i1 i2 fin hi => (m_ast (m_aload (m_getr (m_iload (m_iconst (m_ast (m_aload (m_getr (m_iload (m_iload (m_ast (m_aload (m_getr (m_iload (m_iload (m_ast (m_aload (m_getr (m_iload (m_iconst (m_ast (m_iload (m_xgo hi)))))))))))))))))))))))
theorem mobm_186 : xBm bm_186 := fun dl fs i1 i2 fin hi => (m_aload (m_geti (m_istore (m_aload (m_geti (m_istore (m_iload (m_istore (m_xgo hi)))))))))
theorem mobm_187 : xBm bm_187 := fun dl fs i1 i2 fin hi => (m_iload (m_iload (m_if2 (m_xgo hi) (m_aload (m_getr (m_aload (m_aload (m_getr (m_iload (m_ald (m_aload (m_getr (m_iload (m_ald (m_callv hi)))))))))))))))
theorem mobm_188 : xBm bm_188 := fun dl fs i1 i2 fin hi => (m_ald (m_iload (m_if2 (m_xgo hi) (m_xgo hi))))
theorem mobm_189 : xBm bm_189 := fun dl fs i1 i2 fin hi => (m_aload (m_getr (m_aload (m_geti (m_aload (m_getr (m_iload (m_ald (m_ast (m_aload (m_dup (m_geti (m_iconst (m_bin (m_puti (m_xgo hi))))))))))))))))
theorem mobm_190 : xBm bm_190 := fun dl fs i1 i2 fin hi => (m_iinc (m_xgo hi))
theorem mobm_191 : xBm bm_191 := fun dl fs i1 i2 fin hi => (m_iload (m_istore (m_iload (m_iload (m_if2 (m_xgo hi) (m_iload (m_iload (m_if2 (m_xgo hi) (m_aload (m_getr (m_aload (m_geti (m_aload (m_getr (m_iload (m_ald (m_ast (m_aload (m_dup (m_geti (m_iconst (m_bin (m_xgo hi)))))))))))))))))))))))
theorem mobm_192 : xBm bm_192 := fun dl fs i1 i2 fin hi => (m_iload (m_iload (m_if2 (m_xgo hi) (m_iload (m_iload (m_if2 (m_xgo hi) (m_aload (m_getr (m_aload (m_geti (m_aload (m_getr (m_iload (m_ald (m_ast (m_aload (m_dup (m_geti (m_iconst (m_bin (m_puti (m_xgo hi))))))))))))))))))))))
theorem mobm_193 : xBm bm_193 := fun dl fs i1 i2 fin hi => (m_iconst (m_istore (m_iload (m_iload (m_if2 (m_xgo hi) (m_iload (m_iload (m_if2 (m_xgo hi) (m_aload (m_getr (m_aload (m_geti (m_aload (m_aload (m_getr (m_iload (m_ald (m_iload (m_callv hi)))))))))))))))))))
theorem mobm_194 : xBm bm_194 := fun dl fs i1 i2 fin hi => (m_iload (m_iload (m_if2 (m_xgo hi) (m_iload (m_iload (m_if2 (m_xgo hi) (m_aload (m_getr (m_aload (m_geti (m_aload (m_aload (m_getr (m_iload (m_ald (m_iload (m_callv hi)))))))))))))))))
theorem mobm_195 : xBm bm_195 := fun dl fs i1 i2 fin hi => (m_ast (m_aload (m_dup (m_geti (m_iconst (m_bin (m_puti (m_iinc (m_xgo hi)))))))))
theorem mobm_196 : xBm bm_196 := fun dl fs i1 i2 fin hi => (m_iinc (m_xgo hi))
theorem mobm_197 : xBm bm_197 := fun dl fs i1 i2 fin hi => (m_aload (m_iload (m_aload (m_geti (m_iload (m_aload (m_geti (m_callv hi))))))))
theorem mobm_198 : xBm bm_198 := fun dl fs i1 i2 fin hi => (m_istore (m_aload (m_iload (m_puti (m_aload (m_iload (m_puti (m_aload (m_getr (m_iload (m_iload (m_ast (m_iload (m_if1 (m_xgo hi) (m_aload (m_getr (m_iload (m_iload (m_ast (m_xgo hi))))))))))))))))))))
theorem mobm_199 : xBm bm_199 := fun dl fs i1 i2 fin hi => (m_aload (m_getr (m_iload (m_iload (m_ast (m_iload (m_iret hi)))))))
theorem mobm_200 : xBm bm_200 := fun dl fs i1 i2 fin hi => (m_iload (m_iret hi))
theorem mobm_201 : xBm bm_201 := fun dl fs i1 i2 fin hi => (m_iconst (m_istore (m_iload (m_istore (m_iload (m_if1 (m_xgo hi) (m_iload (m_aload (m_getr (m_iload (m_ald (m_iconst (m_if2 (m_xgo hi) (m_aload (m_getr (m_iload (m_ald (m_iconst (m_if2 (m_xgo hi) (m_xgo hi))))))))))))))))))))
theorem mobm_202 : xBm bm_202 := fun dl fs i1 i2 fin hi => (m_iload (m_if1 (m_xgo hi) (m_iload (m_aload (m_getr (m_iload (m_ald (m_iconst (m_if2 (m_xgo hi) (m_aload (m_getr (m_iload (m_ald (m_iconst (m_if2 (m_xgo hi) (m_xgo hi))))))))))))))))
theorem mobm_203 : xBm bm_203 := fun dl fs i1 i2 fin hi => (m_iconst (m_xgo hi))
theorem mobm_204 : xBm bm_204 := fun dl fs i1 i2 fin hi => (m_aload (m_getr (m_iload (m_ald (m_iconst (m_if2 (m_xgo hi) (m_iconst (m_aload (m_iload (m_callv hi))))))))))
theorem mobm_205 : xBm bm_205 := fun dl fs i1 i2 fin hi => (m_bin (m_xgo hi))
theorem mobm_206 : xBm bm_206 := fun dl fs i1 i2 fin hi => (m_iconst (m_bin (m_istore (m_aload (m_getr (m_iload (m_ald (m_istore (m_xgo hi)))))))))
theorem mobm_207 : xBm bm_207 := fun dl fs i1 i2 fin hi => (m_bin (m_istore (m_aload (m_getr (m_iload (m_ald (m_istore (m_iload (m_if1 (m_xgo hi) (m_aload (m_getr (m_iload (m_ald (m_if1 (m_xgo hi) (m_iload (m_aload (m_iload (m_callv hi))))))))))))))))))
theorem mobm_208 : xBm bm_208 := fun dl fs i1 i2 fin hi => (m_iload (m_if1 (m_xgo hi) (m_aload (m_getr (m_iload (m_ald (m_if1 (m_xgo hi) (m_iload (m_aload (m_iload (m_callv hi)))))))))))
theorem mobm_209 : xBm bm_209 := fun dl fs i1 i2 fin hi => (m_bin (m_istore (m_aload (m_getr (m_iload (m_ald (m_istore (m_xgo hi))))))))
theorem mobm_210 : xBm bm_210 := fun dl fs i1 i2 fin hi => (m_iload (m_istore (m_xgo hi)))
theorem mobm_211 : xBm bm_211 := fun dl fs i1 i2 fin hi => (m_iload (m_iret hi))
theorem mobm_212 : xBm bm_212 := fun dl fs i1 i2 fin hi => (m_aload (m_geti (m_istore (m_iload (m_if1 (m_xgo hi) (m_aload (m_getr (m_iload (m_ald (m_iconst (m_if2 (m_xgo hi) (m_aload (m_getr (m_iload (m_ald (m_iconst (m_if2 (m_xgo hi) m_no)))))))))))))))))
theorem mobm_213 : xBm bm_213 := fun dl fs i1 i2 fin hi => (m_iload (m_if1 (m_xgo hi) (m_aload (m_getr (m_iload (m_ald (m_iconst (m_if2 (m_xgo hi) (m_aload (m_getr (m_iload (m_ald (m_iconst (m_if2 (m_xgo hi) m_no))))))))))))))
theorem mobm_214 : xBm bm_214 := fun dl fs i1 i2 fin hi => (m_aload (m_getr (m_iload (m_ald (m_iconst (m_if2 (m_xgo hi) (m_aload (m_getr (m_iload (m_ald (m_iconst (m_if2 (m_xgo hi) m_no))))))))))))
theorem mobm_215 : xBm bm_215 := fun dl fs i1 i2 fin hi => (m_aload (m_getr (m_iload (m_ald (m_istore (m_xgo hi))))))
theorem mobm_216 : xBm bm_216 := fun dl fs i1 i2 fin hi => (m_iload (m_istore (m_iload (m_aload (m_geti (m_if2 (m_xgo hi) (m_aload (m_getr (m_iload (m_ald (m_istore (m_aload (m_iload (m_callv hi))))))))))))))
theorem mobm_217 : xBm bm_217 := fun dl fs i1 i2 fin hi => (m_iload (m_aload (m_geti (m_if2 (m_xgo hi) (m_aload (m_getr (m_iload (m_ald (m_istore (m_aload (m_iload (m_callv hi))))))))))))
theorem mobm_218 : xBm bm_218 := fun dl fs i1 i2 fin hi => (m_istore (m_aload (m_getr (m_iload (m_ald (m_istore (m_iload (m_aload (m_getr (m_iload (m_ald (m_if2 m_no (m_iload (m_aload (m_aload (m_getr (m_aload (m_getr (m_iload (m_ald (m_ald (m_callv hi))))))))))))))))))))))
theorem mobm_219 : xBm bm_219 := fun dl fs i1 i2 fin hi => (m_if2 m_no (m_iload (m_iconst (m_if2 m_no (m_iload (m_aload (m_getr (m_iload (m_ald (m_bin (m_iconst (m_if2 (m_xgo hi) m_no))))))))))))
theorem mobm_220 : xBm bm_220 := fun dl fs i1 i2 fin hi => (m_aload (m_getr (m_aload (m_getr (m_iload (m_ald (m_ald (m_aload (m_getr (m_iload (m_ald (m_bin (m_aload (m_getr (m_aload (m_getr (m_iload (m_ald (m_ald (m_bin (m_iconst (m_if2 (m_xgo hi) m_no))))))))))))))))))))))
theorem mobm_221 : xBm bm_221 := fun dl fs i1 i2 fin hi => (m_iconst (m_istore (m_aload (m_getr (m_iload (m_ald (m_istore (m_iload (m_aload (m_getr (m_iload (m_ald (m_if2 (m_xgo hi) (m_iload (m_aload (m_iload (m_callv hi)))))))))))))))))
theorem mobm_222 : xBm bm_222 := fun dl fs i1 i2 fin hi => (m_iload (m_aload (m_getr (m_iload (m_ald (m_if2 (m_xgo hi) (m_iload (m_aload (m_iload (m_callv hi))))))))))
theorem mobm_223 : xBm bm_223 := fun dl fs i1 i2 fin hi => (m_bin (m_istore (m_aload (m_getr (m_iload (m_ald (m_istore (m_xgo hi))))))))
theorem mobm_224 : xBm bm_224 := fun dl fs i1 i2 fin hi => (m_iload (m_iconst (m_if2 (m_xgo hi) m_no)))
theorem mobm_225 : xBm bm_225 := fun dl fs i1 i2 fin hi => (m_iinc (m_xgo hi))
theorem mobm_226 : xBm bm_226 := fun dl fs i1 i2 fin hi => (m_iload (m_istore (m_iload (m_aload (m_geti (m_if2 (m_xgo hi) (m_aload (m_getr (m_iload (m_ald (m_look (And.intro (And.intro rfl (m_xgo hi)) (And.intro (And.intro rfl (m_xgo hi)) (And.intro (And.intro rfl (m_xgo hi)) (And.intro (And.intro rfl (m_xgo hi)) (And.intro (And.intro rfl m_no) (And.intro (And.intro rfl m_no) True.intro)))))) (m_xgo hi))))))))))))
theorem mobm_227 : xBm bm_227 := fun dl fs i1 i2 fin hi => (m_iload (m_aload (m_geti (m_if2 (m_xgo hi) (m_aload (m_getr (m_iload (m_ald (m_look (And.intro (And.intro rfl (m_xgo hi)) (And.intro (And.intro rfl (m_xgo hi)) (And.intro (And.intro rfl (m_xgo hi)) (And.intro (And.intro rfl (m_xgo hi)) (And.intro (And.intro rfl m_no) (And.intro (And.intro rfl m_no) True.intro)))))) (m_xgo hi))))))))))
theorem mobm_228 : xBm bm_228 := fun dl fs i1 i2 fin hi => (m_aload (m_iload (m_callv hi)))
theorem mobm_229 : xBm bm_229 := fun dl fs i1 i2 fin hi => (m_iconst (m_if2 m_no (m_aload (m_getr (m_iload (m_ald (m_iconst (m_if2 (m_xgo hi) m_no))))))))
theorem mobm_230 : xBm bm_230 := fun dl fs i1 i2 fin hi => (m_aload (m_iload (m_callv hi)))
theorem mobm_231 : xBm bm_231 := fun dl fs i1 i2 fin hi => (m_aload (m_getr (m_aload (m_getr (m_iload (m_ald (m_ald (m_if2 (m_xgo hi) m_no))))))))
theorem mobm_232 : xBm bm_232 := fun dl fs i1 i2 fin hi => (m_aload (m_getr (m_iload (m_ald (m_iconst (m_if2 (m_xgo hi) (m_aload (m_iload (m_callv hi)))))))))
theorem mobm_233 : xBm bm_233 := fun dl fs i1 i2 fin hi => (m_aload (m_getr (m_aload (m_getr (m_iload (m_ald (m_ald (m_if2 (m_xgo hi) m_no))))))))
theorem mobm_234 : xBm bm_234 := fun dl fs i1 i2 fin hi => (m_aload (m_getr (m_iload (m_ald (m_iconst (m_if2 (m_xgo hi) m_no))))))
theorem mobm_235 : xBm bm_235 := fun dl fs i1 i2 fin hi => (m_iinc (m_xgo hi))
theorem mobm_236 : xBm bm_236 := fun dl fs i1 i2 fin hi => (m_ret hi)
theorem mobm_237 : xBm bm_237 := fun dl fs i1 i2 fin hi => (m_aload (m_dup (m_geti (m_iconst (m_bin (m_puti (m_aload (m_iconst (m_aload (m_geti (m_aload (m_getr (m_aload (m_geti (m_ald (m_callv hi))))))))))))))))
theorem mobm_238 : xBm bm_238 := fun dl fs i1 i2 fin hi => (m_istore (m_aload (m_iconst (m_callv hi))))
theorem mobm_239 : xBm bm_239 := fun dl fs i1 i2 fin hi => (m_iconst (m_istore (m_iconst (m_istore (m_aload (m_geti (m_if1 (m_xgo hi) (m_aload (m_callv hi)))))))))
theorem mobm_240 : xBm bm_240 := fun dl fs i1 i2 fin hi => (m_iconst (m_if2 (m_xgo hi) m_no))
theorem mobm_241 : xBm bm_241 := fun dl fs i1 i2 fin hi => (m_aload (m_getr (m_iload (m_iload (m_ast (m_aload (m_iconst (m_callv hi))))))))
theorem mobm_242 : xBm bm_242 := fun dl fs i1 i2 fin hi => (m_iconst (m_istore (m_aload (m_geti (m_if1 (m_xgo hi) (m_iload (m_if1 (m_xgo hi) (m_aload (m_iconst (m_aload (m_geti (m_aload (m_getr (m_aload (m_geti (m_ald (m_callv hi)))))))))))))))))
theorem mobm_243 : xBm bm_243 := fun dl fs i1 i2 fin hi => (m_aload (m_geti (m_if1 (m_xgo hi) (m_iload (m_if1 (m_xgo hi) (m_aload (m_iconst (m_aload (m_geti (m_aload (m_getr (m_aload (m_geti (m_ald (m_callv hi)))))))))))))))
theorem mobm_244 : xBm bm_244 := fun dl fs i1 i2 fin hi => (m_istore (m_aload (m_geti (m_istore (m_aload (m_iconst (m_callv hi)))))))
theorem mobm_245 : xBm bm_245 := fun dl fs i1 i2 fin hi => (m_iconst (m_istore (m_aload (m_geti (m_if1 (m_xgo hi) (m_aload (m_callv hi)))))))
theorem mobm_246 : xBm bm_246 := fun dl fs i1 i2 fin hi => (m_if1 (m_xgo hi) m_no)
theorem mobm_247 : xBm bm_247 := fun dl fs i1 i2 fin hi => (m_aload (m_getr (m_iload (m_aload (m_geti (m_iload (m_bin (m_ast (m_aload (m_iload (m_iload (m_iload (m_callv hi)))))))))))))
theorem mobm_248 : xBm bm_248 := fun dl fs i1 i2 fin hi => (m_istore (m_aload (m_iconst (m_callv hi))))
theorem mobm_249 : xBm bm_249 := fun dl fs i1 i2 fin hi => (m_istore (m_xgo hi))
theorem mobm_250 : xBm bm_250 := fun dl fs i1 i2 fin hi => (m_iload (m_iret hi))
theorem mobm_251 : xBm bm_251 := fun dl fs i1 i2 fin hi => (m_aload (m_callv hi))
theorem mobm_252 : xBm bm_252 := fun dl fs i1 i2 fin hi => (m_istore (m_iload (m_iconst (m_if2 (m_xgo hi) (m_aload (m_callv hi))))))
theorem mobm_253 : xBm bm_253 := fun dl fs i1 i2 fin hi => (m_iret hi)
theorem mobm_254 : xBm bm_254 := fun dl fs i1 i2 fin hi => (m_iload (m_iconst (m_if2 (m_xgo hi) (m_iload (m_iconst (m_if2 (m_xgo hi) (m_iload (m_iconst (m_if2 (m_xgo hi) (m_xgo hi))))))))))
theorem mobm_255 : xBm bm_255 := fun dl fs i1 i2 fin hi => (m_aload (m_iload (m_callv hi)))
theorem mobm_256 : xBm bm_256 := fun dl fs i1 i2 fin hi => (m_iret hi)
theorem mobm_257 : xBm bm_257 := fun dl fs i1 i2 fin hi => (m_iload (m_iconst (m_if2 (m_xgo hi) (m_aload (m_getr (m_aload (m_geti (m_iconst (m_bin (m_ald (m_iconst (m_if2 (m_xgo hi) (m_iconst (m_xgo hi))))))))))))))
theorem mobm_258 : xBm bm_258 := fun dl fs i1 i2 fin hi => (m_iconst (m_istore (m_iload (m_if1 (m_xgo hi) (m_iload (m_iconst (m_if2 (m_xgo hi) (m_aload (m_getr (m_aload (m_geti (m_iconst (m_bin (m_ald (m_iconst (m_if2 (m_xgo hi) (m_xgo hi)))))))))))))))))
theorem mobm_259 : xBm bm_259 := fun dl fs i1 i2 fin hi => (m_istore (m_iload (m_if1 (m_xgo hi) (m_iload (m_iconst (m_if2 (m_xgo hi) (m_aload (m_getr (m_aload (m_geti (m_iconst (m_bin (m_ald (m_iconst (m_if2 (m_xgo hi) (m_xgo hi))))))))))))))))
theorem mobm_260 : xBm bm_260 := fun dl fs i1 i2 fin hi => (m_aload (m_iload (m_callv hi)))
theorem mobm_261 : xBm bm_261 := fun dl fs i1 i2 fin hi => (m_iret hi)
theorem mobm_262 : xBm bm_262 := fun dl fs i1 i2 fin hi => (m_aload (m_callv hi))
theorem mobm_263 : xBm bm_263 := fun dl fs i1 i2 fin hi => (m_iret hi)
theorem mobm_264 : xBm bm_264 := fun dl fs i1 i2 fin hi => (m_aload (m_geti (m_if1 (m_xgo hi) (m_aload (m_iload (m_puti (m_xgo hi)))))))
theorem mobm_265 : xBm bm_265 := fun dl fs i1 i2 fin hi => (m_aload (m_getr (m_aload (m_geti (m_iload (m_ast (m_aload (m_iload (m_puti (m_ret hi))))))))))
theorem mobm_266 : xBm bm_266 := fun dl fs i1 i2 fin hi => (m_aload (m_iload (m_puti (m_ret hi))))
theorem mobm_267 : xBm bm_267 := fun dl fs i1 i2 fin hi => (m_aload (m_geti (m_if1 (m_xgo hi) m_no)))
theorem mobm_268 : xBm bm_268 := fun dl fs i1 i2 fin hi => (m_aload (m_geti (m_iconst (m_if2 (m_xgo hi) m_no))))
theorem mobm_269 : xBm bm_269 := fun dl fs i1 i2 fin hi => (m_aload (m_dup (m_geti (m_iconst (m_bin (m_puti (m_aload (m_dup (m_geti (m_iconst (m_bin (m_puti (m_ret hi)))))))))))))
theorem mobm_270 : xBm bm_270 := fun dl fs i1 i2 fin hi => (m_aload (m_geti (m_if1 (m_xgo hi) m_no)))
theorem mobm_271 : xBm bm_271 := fun dl fs i1 i2 fin hi => (m_aload (m_callv hi))
theorem mobm_272 : xBm bm_272 := fun dl fs i1 i2 fin hi => (m_if1 (m_xgo hi) (m_aload (m_callv hi)))
theorem mobm_273 : xBm bm_273 := fun dl fs i1 i2 fin hi => (m_xgo hi)
theorem mobm_274 : xBm bm_274 := fun dl fs i1 i2 fin hi => (m_aload (m_iconst (m_callv hi)))
theorem mobm_275 : xBm bm_275 := fun dl fs i1 i2 fin hi => (m_iret hi)
theorem mobm_276 : xBm bm_276 := fun dl fs i1 i2 fin hi => (m_aload (m_geti (m_iload (m_if2 (m_xgo hi) (m_aload (m_dup (m_geti (m_iconst (m_bin (m_puti (m_aload (m_getr (m_aload (m_getr (m_aload (m_geti (m_ald (m_aload (m_getr (m_aload (m_geti (m_ald (m_xgo hi)))))))))))))))))))))))
theorem mobm_277 : xBm bm_277 := fun dl fs i1 i2 fin hi => (m_ret hi)
theorem mobm_278 : xBm bm_278 := fun dl fs i1 i2 fin hi => (m_iconst (m_istore (m_iload (m_istore (m_iload (m_iload (m_if2 (m_xgo hi) (m_aload (m_iload (m_iload (m_aload (m_getr (m_iload (m_ald (m_callv hi)))))))))))))))
theorem mobm_279 : xBm bm_279 := fun dl fs i1 i2 fin hi => (m_iload (m_iload (m_if2 (m_xgo hi) (m_aload (m_iload (m_iload (m_aload (m_getr (m_iload (m_ald (m_callv hi)))))))))))
theorem mobm_280 : xBm bm_280 := fun dl fs i1 i2 fin hi => (m_istore (m_iload (m_iload (m_iload (m_bin (m_if2 (m_xgo hi) (m_aload (m_iload (m_iload (m_iload (m_iload (m_iload (m_callv hi)))))))))))))
theorem mobm_281 : xBm bm_281 := fun dl fs i1 i2 fin hi => (m_iret hi)
theorem mobm_282 : xBm bm_282 := fun dl fs i1 i2 fin hi => (m_iload (m_if1 (m_xgo hi) m_no))
theorem mobm_283 : xBm bm_283 := fun dl fs i1 i2 fin hi => (m_iinc (m_xgo hi))
theorem mobm_284 : xBm bm_284 := fun dl fs i1 i2 fin hi => (m_iload (m_if1 (m_xgo hi) (m_iload (m_iload (m_bin (m_iconst (m_if2 (m_xgo hi) (m_aload (m_iconst (m_aload (m_getr (m_iload (m_ald (m_callv hi))))))))))))))
theorem mobm_285 : xBm bm_285 := fun dl fs i1 i2 fin hi => (m_iret hi)
theorem mobm_286 : xBm bm_286 := fun dl fs i1 i2 fin hi => (m_aload (m_iconst (m_iconst (m_callv hi))))
theorem mobm_287 : xBm bm_287 := fun dl fs i1 i2 fin hi => (m_istore (m_iconst (m_istore (m_iload (m_istore (m_iload (m_iload (m_if2 (m_xgo hi) (m_iload (m_iconst (m_bin (m_istore (m_iload (m_if1 (m_xgo hi) m_no))))))))))))))
theorem mobm_288 : xBm bm_288 := fun dl fs i1 i2 fin hi => (m_iload (m_iload (m_if2 (m_xgo hi) (m_iload (m_iconst (m_bin (m_istore (m_iload (m_if1 (m_xgo hi) m_no)))))))))
theorem mobm_289 : xBm bm_289 := fun dl fs i1 i2 fin hi => (m_iload (m_if1 m_no (m_aload (m_iconst (m_aload (m_getr (m_iload (m_ald (m_callv hi)))))))))
theorem mobm_290 : xBm bm_290 := fun dl fs i1 i2 fin hi => (m_xgo hi)
theorem mobm_291 : xBm bm_291 := fun dl fs i1 i2 fin hi => (m_istore (m_iload (m_if1 (m_xgo hi) (m_aload (m_getr (m_iload (m_iload (m_ast (m_xgo hi)))))))))
theorem mobm_292 : xBm bm_292 := fun dl fs i1 i2 fin hi => (m_aload (m_getr (m_iload (m_iload (m_ast (m_iload (m_istore (m_iload (m_istore (m_xgo hi))))))))))
theorem mobm_293 : xBm bm_293 := fun dl fs i1 i2 fin hi => (m_iload (m_istore (m_iload (m_istore (m_xgo hi)))))
theorem mobm_294 : xBm bm_294 := fun dl fs i1 i2 fin hi => (m_iload (m_iret hi))
theorem mobm_295 : xBm bm_295 := fun dl fs i1 i2 fin hi => (m_iconst (m_istore (m_iload (m_iload (m_if2 (m_xgo hi) (m_aload (m_getr (m_aload (m_geti (m_aload (m_iconst (m_iload (m_callv hi)))))))))))))
theorem mobm_296 : xBm bm_296 := fun dl fs i1 i2 fin hi => (m_iload (m_iload (m_if2 (m_xgo hi) (m_aload (m_getr (m_aload (m_geti (m_aload (m_iconst (m_iload (m_callv hi)))))))))))
theorem mobm_297 : xBm bm_297 := fun dl fs i1 i2 fin hi => (m_ast (m_aload (m_dup (m_geti (m_iconst (m_bin (m_puti (m_iinc (m_xgo hi)))))))))
theorem mobm_298 : xBm bm_298 := fun dl fs i1 i2 fin hi => (m_aload (m_iload (m_aload (m_geti (m_iconst (m_aload (m_geti (m_callv hi))))))))
theorem mobm_299 : xBm bm_299 := fun dl fs i1 i2 fin hi => (m_istore (m_aload (m_iconst (m_puti (m_aload (m_iconst (m_puti (m_iload (m_iret hi)))))))))
theorem mobm_300 : xBm bm_300 := fun dl fs i1 i2 fin hi => (m_aload (m_iconst (m_putz (m_iload (m_istore (m_iload (m_aload (m_geti (m_if2 (m_xgo hi) (m_aload (m_getr (m_iload (m_ald (m_iconst (m_if2 m_no (m_xgo hi))))))))))))))))
theorem mobm_301 : xBm bm_301 := fun dl fs i1 i2 fin hi => (m_iload (m_aload (m_geti (m_if2 (m_xgo hi) (m_aload (m_getr (m_iload (m_ald (m_iconst (m_if2 m_no (m_xgo hi)))))))))))
theorem mobm_302 : xBm bm_302 := fun dl fs i1 i2 fin hi => (m_iinc (m_xgo hi))
theorem mobm_303 : xBm bm_303 := fun dl fs i1 i2 fin hi => (m_ret hi)
theorem mobm_304 : xBm bm_304 := fun dl fs i1 i2 fin hi => (m_aload (m_iconst (m_putz (m_aload (m_getr (m_iload (m_iconst (m_ast (m_aload (m_getr (m_iload (m_ald (m_if1 (m_xgo hi) (m_ret hi))))))))))))))
theorem mobm_305 : xBm bm_305 := fun dl fs i1 i2 fin hi => (m_iconst (m_istore (m_iload (m_aload (m_getr (m_iload (m_ald (m_if2 (m_xgo hi) (m_aload (m_getr (m_aload (m_geti (m_aload (m_getr (m_iload (m_ald (m_iload (m_bin (m_ast (m_aload (m_dup (m_geti (m_xgo hi)))))))))))))))))))))))
theorem mobm_306 : xBm bm_306 := fun dl fs i1 i2 fin hi => (m_iload (m_aload (m_getr (m_iload (m_ald (m_if2 (m_xgo hi) (m_aload (m_getr (m_aload (m_geti (m_aload (m_getr (m_iload (m_ald (m_iload (m_bin (m_ast (m_aload (m_dup (m_geti (m_iconst (m_bin (m_xgo hi)))))))))))))))))))))))
theorem mobm_307 : xBm bm_307 := fun dl fs i1 i2 fin hi => (m_aload (m_getr (m_iload (m_aload (m_iconst (m_aload (m_getr (m_iload (m_ald (m_callv hi))))))))))
theorem mobm_308 : xBm bm_308 := fun dl fs i1 i2 fin hi => (m_ast (m_ret hi))
theorem mobm_309 : xBm bm_309 := fun dl fs i1 i2 fin hi => (m_aload (m_geti (m_if1 (m_xgo hi) (m_aload (m_callv hi)))))
theorem mobm_310 : xBm bm_310 := fun dl fs i1 i2 fin hi => (m_iconst (m_if2 m_no (m_aload (m_callv hi))))
theorem mobm_311 : xBm bm_311 := fun dl fs i1 i2 fin hi => (m_iret hi)
theorem mobm_312 : xBm bm_312 := fun dl fs i1 i2 fin hi => (m_aload (m_iconst (m_aload (m_geti (m_iconst (m_callv hi))))))
theorem mobm_313 : xBm bm_313 := fun dl fs i1 i2 fin hi => (m_istore (m_aload (m_dup (m_geti (m_iconst (m_bin (m_puti (m_aload (m_getr (m_iload (m_iload (m_ast (m_aload (m_callv hi))))))))))))))
theorem mobm_314 : xBm bm_314 := fun dl fs i1 i2 fin hi => (m_iconst (m_if2 m_no (m_aload (m_getr (m_aload (m_geti (m_ald (m_iconst (m_if2 (m_xgo hi) m_no)))))))))
theorem mobm_315 : xBm bm_315 := fun dl fs i1 i2 fin hi => (m_aload (m_getr (m_iload (m_aload (m_getr (m_aload (m_geti (m_ald (m_ast (m_aload (m_iconst (m_callv hi))))))))))))
theorem mobm_316 : xBm bm_316 := fun dl fs i1 i2 fin hi => (m_iconst (m_istore (m_iconst (m_istore (m_aload (m_geti (m_if1 (m_xgo hi) (m_iload (m_if1 (m_xgo hi) (m_aload (m_geti (m_istore (m_aload (m_callv hi))))))))))))))
theorem mobm_317 : xBm bm_317 := fun dl fs i1 i2 fin hi => (m_aload (m_geti (m_if1 (m_xgo hi) (m_iload (m_if1 (m_xgo hi) (m_aload (m_geti (m_istore (m_aload (m_callv hi))))))))))
theorem mobm_318 : xBm bm_318 := fun dl fs i1 i2 fin hi => (m_istore (m_aload (m_iload (m_iload (m_aload (m_iconst (m_iload (m_iload (m_callv hi)))))))))
theorem mobm_319 : xBm bm_319 := fun dl fs i1 i2 fin hi => (m_callv hi)
theorem mobm_320 : xBm bm_320 := fun dl fs i1 i2 fin hi => (m_istore (m_aload (m_iconst (m_callv hi))))
theorem mobm_321 : xBm bm_321 := fun dl fs i1 i2 fin hi => (m_istore (m_xgo hi))
theorem mobm_322 : xBm bm_322 := fun dl fs i1 i2 fin hi => (m_iload (m_iret hi))
theorem mobm_323 : xBm bm_323 := fun dl fs i1 i2 fin hi => (m_iload (m_calls hi))
theorem mobm_324 : xBm bm_324 := fun dl fs i1 i2 fin hi => (m_if1 (m_xgo hi) (m_iload (m_calls hi)))
theorem mobm_325 : xBm bm_325 := fun dl fs i1 i2 fin hi => (m_if1 (m_xgo hi) (m_iload (m_calls hi)))
theorem mobm_326 : xBm bm_326 := fun dl fs i1 i2 fin hi => (m_if1 (m_xgo hi) (m_iload (m_iconst (m_if2 (m_xgo hi) (m_iconst (m_xgo hi))))))
theorem mobm_327 : xBm bm_327 := fun dl fs i1 i2 fin hi => (m_iconst (m_xgo hi))
theorem mobm_328 : xBm bm_328 := fun dl fs i1 i2 fin hi => (m_iconst (m_zret hi))
theorem mobm_329 : xBm bm_329 := fun dl fs i1 i2 fin hi => (m_zret hi)
theorem mobm_330 : xBm bm_330 := fun dl fs i1 i2 fin hi => (m_aload (m_getr (m_iload (m_ald (m_iconst (m_if2 (m_xgo hi) (m_aload (m_getr (m_aload (m_getr (m_iload (m_ald (m_ald (m_iconst (m_if2 (m_xgo hi) (m_aload (m_getr (m_aload (m_getr (m_iload (m_ald (m_ald (m_xgo hi)))))))))))))))))))))))
theorem mobm_331 : xBm bm_331 := fun dl fs i1 i2 fin hi => (m_iconst (m_zret hi))
theorem mobm_332 : xBm bm_332 := fun dl fs i1 i2 fin hi => (m_zret hi)
theorem mobm_333 : xBm bm_333 := fun dl fs i1 i2 fin hi => (m_iload (m_iconst (m_if2 (m_xgo hi) (m_iload (m_iconst (m_if2 (m_xgo hi) (m_iconst (m_xgo hi))))))))
theorem mobm_334 : xBm bm_334 := fun dl fs i1 i2 fin hi => (m_iconst (m_zret hi))
theorem mobm_335 : xBm bm_335 := fun dl fs i1 i2 fin hi => (m_zret hi)
theorem mobm_336 : xBm bm_336 := fun dl fs i1 i2 fin hi => (m_iload (m_iconst (m_if2 (m_xgo hi) (m_iload (m_iconst (m_if2 (m_xgo hi) (m_iconst (m_xgo hi))))))))
theorem mobm_337 : xBm bm_337 := fun dl fs i1 i2 fin hi => (m_iconst (m_zret hi))
theorem mobm_338 : xBm bm_338 := fun dl fs i1 i2 fin hi => (m_zret hi)
theorem mobm_339 : xBm bm_339 := fun dl fs i1 i2 fin hi => (m_aload (m_iload (m_iload (m_callv hi))))
theorem mobm_340 : xBm bm_340 := fun dl fs i1 i2 fin hi => (m_istore (m_iload (m_istore (m_iload (m_iload (m_if2 (m_xgo hi) (m_aload (m_getr (m_iload (m_ald (m_iconst (m_if2 (m_xgo hi) (m_iconst (m_zret hi))))))))))))))
theorem mobm_341 : xBm bm_341 := fun dl fs i1 i2 fin hi => (m_iload (m_iload (m_if2 (m_xgo hi) (m_aload (m_getr (m_iload (m_ald (m_iconst (m_if2 (m_xgo hi) (m_iconst (m_zret hi)))))))))))
theorem mobm_342 : xBm bm_342 := fun dl fs i1 i2 fin hi => (m_iinc (m_xgo hi))
theorem mobm_343 : xBm bm_343 := fun dl fs i1 i2 fin hi => (m_iload (m_iload (m_bin (m_iconst (m_if2 (m_xgo hi) m_no)))))
theorem mobm_344 : xBm bm_344 := fun dl fs i1 i2 fin hi => (m_iconst (m_zret hi))
theorem mobm_345 : xBm bm_345 := fun dl fs i1 i2 fin hi => (m_aload (m_getr (m_iload (m_ald (m_iconst (m_if2 (m_xgo hi) (m_aload (m_getr (m_iload (m_ald (m_iconst (m_if2 (m_xgo hi) (m_xgo hi)))))))))))))
theorem mobm_346 : xBm bm_346 := fun dl fs i1 i2 fin hi => (m_iconst (m_xgo hi))
theorem mobm_347 : xBm bm_347 := fun dl fs i1 i2 fin hi => (m_iconst (m_zret hi))
theorem mobm_348 : xBm bm_348 := fun dl fs i1 i2 fin hi => (m_zret hi)
theorem mobm_349 : xBm bm_349 := fun dl fs i1 i2 fin hi => (m_text (m_iload (m_callt hi)))
theorem mobm_350 : xBm bm_350 := fun dl fs i1 i2 fin hi => (m_if1 (m_xgo hi) (m_iconst (m_xgo hi)))
theorem mobm_351 : xBm bm_351 := fun dl fs i1 i2 fin hi => (m_iconst (m_zret hi))
theorem mobm_352 : xBm bm_352 := fun dl fs i1 i2 fin hi => (m_zret hi)
theorem mobm_353 : xBm bm_353 := fun dl fs i1 i2 fin hi => (m_aload (m_getr (m_iload (m_ald (m_istore (m_iload (m_aload (m_getr (m_iload (m_ald (m_if2 (m_xgo hi) (m_aload (m_getr (m_iload (m_ald (m_istore (m_iload (m_iconst (m_if2 m_no (m_iload (m_iconst (m_if2 (m_xgo hi) m_no))))))))))))))))))))))
theorem mobm_354 : xBm bm_354 := fun dl fs i1 i2 fin hi => (m_iload (m_aload (m_getr (m_iload (m_ald (m_if2 (m_xgo hi) (m_aload (m_getr (m_iload (m_ald (m_istore (m_iload (m_iconst (m_if2 m_no (m_iload (m_iconst (m_if2 (m_xgo hi) m_no)))))))))))))))))
theorem mobm_355 : xBm bm_355 := fun dl fs i1 i2 fin hi => (m_iload (m_iconst (m_if2 (m_xgo hi) m_no)))
theorem mobm_356 : xBm bm_356 := fun dl fs i1 i2 fin hi => (m_iload (m_iconst (m_if2 (m_xgo hi) (m_iload (m_iconst (m_if2 (m_xgo hi) (m_aload (m_getr (m_iload (m_ald (m_if1 (m_xgo hi) (m_xgo hi))))))))))))
theorem mobm_357 : xBm bm_357 := fun dl fs i1 i2 fin hi => (m_aload (m_getr (m_iload (m_ald (m_iconst (m_if2 (m_xgo hi) (m_aload (m_getr (m_iconst (m_aload (m_getr (m_iload (m_ald (m_bin (m_ald (m_if1 (m_xgo hi) m_no))))))))))))))))
theorem mobm_358 : xBm bm_358 := fun dl fs i1 i2 fin hi => (m_iinc (m_xgo hi))
theorem mobm_359 : xBm bm_359 := fun dl fs i1 i2 fin hi => (m_iconst (m_zret hi))
theorem mobm_360 : xBm bm_360 := fun dl fs i1 i2 fin hi => (m_iload (m_iconst (m_if2 (m_xgo hi) (m_iload (m_iconst (m_if2 (m_xgo hi) (m_iload (m_iconst (m_if2 (m_xgo hi) (m_xgo hi))))))))))
theorem mobm_361 : xBm bm_361 := fun dl fs i1 i2 fin hi => (m_iload (m_iconst (m_if2 (m_xgo hi) (m_iconst (m_xgo hi)))))
theorem mobm_362 : xBm bm_362 := fun dl fs i1 i2 fin hi => (m_iconst (m_xgo hi))
theorem mobm_363 : xBm bm_363 := fun dl fs i1 i2 fin hi => (m_iconst (m_zret hi))
theorem mobm_364 : xBm bm_364 := fun dl fs i1 i2 fin hi => (m_zret hi)
theorem mobm_365 : xBm bm_365 := fun dl fs i1 i2 fin hi => (m_aload (m_getr (m_aload (m_geti (m_ald (m_iret hi))))))
theorem mobm_366 : xBm bm_366 := fun dl fs i1 i2 fin hi => (m_aload (m_getr (m_iload (m_ald (m_iload (m_if2 (m_xgo hi) m_no))))))
theorem mobm_367 : xBm bm_367 := fun dl fs i1 i2 fin hi => (m_aload (m_getr (m_aload (m_geti (m_iload (m_ast (m_aload (m_getr (m_aload (m_geti (m_iload (m_ast (m_aload (m_getr (m_aload (m_geti (m_aload (m_getr (m_iload (m_ald (m_ast (m_aload (m_xgo hi)))))))))))))))))))))))
theorem mobm_368 : xBm bm_368 := fun dl fs i1 i2 fin hi => (m_iload (m_istore (m_iload (m_if1 (m_xgo hi) (m_aload (m_iload (m_ald (m_if1 (m_xgo hi) (m_aload (m_iload (m_ald (m_istore (m_xgo hi)))))))))))))
theorem mobm_369 : xBm bm_369 := fun dl fs i1 i2 fin hi => (m_iload (m_if1 (m_xgo hi) (m_aload (m_iload (m_ald (m_if1 (m_xgo hi) (m_aload (m_iload (m_ald (m_istore (m_xgo hi)))))))))))
theorem mobm_370 : xBm bm_370 := fun dl fs i1 i2 fin hi => (m_iload (m_iret hi))
theorem mobm_371 : xBm bm_371 := fun dl fs i1 i2 fin hi => (m_iconst (m_istore (m_aload (m_getr (m_iload (m_ald (m_istore (m_aload (m_getr (m_iconst (m_iload (m_ast (m_xgo hi)))))))))))))
theorem mobm_372 : xBm bm_372 := fun dl fs i1 i2 fin hi => (m_aload (m_getr (m_iload (m_ald (m_if1 (m_xgo hi) (m_aload (m_getr (m_iload (m_aload (m_getr (m_iload (m_ald (m_ast (m_aload (m_getr (m_aload (m_getr (m_iload (m_ald (m_ald (m_istore (m_iinc (m_xgo hi)))))))))))))))))))))))
theorem mobm_373 : xBm bm_373 := fun dl fs i1 i2 fin hi => (m_iload (m_iret hi))
theorem mobm_374 : xBm bm_374 := fun dl fs i1 i2 fin hi => (m_aload (m_iload (m_callv hi)))
theorem mobm_375 : xBm bm_375 := fun dl fs i1 i2 fin hi => (m_aload (m_dup (m_geti (m_iconst (m_bin (m_puti (m_ret hi)))))))
theorem mobm_376 : xBm bm_376 := fun dl fs i1 i2 fin hi => (m_aload (m_geti (m_istore (m_aload (m_callv hi)))))
theorem mobm_377 : xBm bm_377 := fun dl fs i1 i2 fin hi => (m_aload (m_iconst (m_callv hi)))
theorem mobm_378 : xBm bm_378 := fun dl fs i1 i2 fin hi => (m_if1 m_no (m_aload (m_dup (m_geti (m_iconst (m_bin (m_puti (m_aload (m_iconst (m_iload (m_iconst (m_callv hi))))))))))))
theorem mobm_379 : xBm bm_379 := fun dl fs i1 i2 fin hi => (m_iret hi)
theorem mobm_380 : xBm bm_380 := fun dl fs i1 i2 fin hi => (m_iconst (m_istore (m_aload (m_getr (m_iload (m_ald (m_istore (m_iload (m_if1 (m_xgo hi) (m_iinc (m_aload (m_getr (m_iload (m_ald (m_istore (m_xgo hi))))))))))))))))
theorem mobm_381 : xBm bm_381 := fun dl fs i1 i2 fin hi => (m_iload (m_if1 (m_xgo hi) (m_iinc (m_aload (m_getr (m_iload (m_ald (m_istore (m_xgo hi)))))))))
theorem mobm_382 : xBm bm_382 := fun dl fs i1 i2 fin hi => (m_iload (m_iret hi))
theorem mobm_383 : xBm bm_383 := fun dl fs i1 i2 fin hi => (m_aload (m_getr (m_iload (m_ald (m_istore (m_iload (m_iconst (m_if2 (m_xgo hi) (m_iload (m_iconst (m_if2 (m_xgo hi) (m_iconst (m_xgo hi)))))))))))))
theorem mobm_384 : xBm bm_384 := fun dl fs i1 i2 fin hi => (m_iload (m_iconst (m_if2 (m_xgo hi) (m_iconst (m_xgo hi)))))
theorem mobm_385 : xBm bm_385 := fun dl fs i1 i2 fin hi => (m_iload (m_iconst (m_if2 (m_xgo hi) (m_iconst (m_xgo hi)))))
theorem mobm_386 : xBm bm_386 := fun dl fs i1 i2 fin hi => (m_iload (m_iconst (m_if2 (m_xgo hi) m_no)))
theorem mobm_387 : xBm bm_387 := fun dl fs i1 i2 fin hi => (m_iconst (m_iret hi))
theorem mobm_388 : xBm bm_388 := fun dl fs i1 i2 fin hi => (m_iret hi)
theorem mobm_389 : xBm bm_389 := fun dl fs i1 i2 fin hi => (m_aload (m_getr (m_iload (m_iconst (m_bin (m_ald (m_istore (m_iload (m_iconst (m_if2 (m_xgo hi) (m_iload (m_iconst (m_if2 (m_xgo hi) (m_iload (m_iconst (m_if2 (m_xgo hi) (m_iconst (m_xgo hi))))))))))))))))))
theorem mobm_390 : xBm bm_390 := fun dl fs i1 i2 fin hi => (m_iload (m_iconst (m_if2 (m_xgo hi) (m_iload (m_iconst (m_if2 (m_xgo hi) (m_iload (m_iconst (m_if2 (m_xgo hi) (m_iconst (m_xgo hi)))))))))))
theorem mobm_391 : xBm bm_391 := fun dl fs i1 i2 fin hi => (m_iconst (m_iret hi))
theorem mobm_392 : xBm bm_392 := fun dl fs i1 i2 fin hi => (m_iret hi)
theorem mobm_393 : xBm bm_393 := fun dl fs i1 i2 fin hi => (m_aload (m_geti (m_if1 (m_xgo hi) (m_aload (m_geti (m_iload (m_if2 (m_xgo hi) (m_aload (m_aload (m_callv hi))))))))))
theorem mobm_394 : xBm bm_394 := fun dl fs i1 i2 fin hi => (m_callv hi)
theorem mobm_395 : xBm bm_395 := fun dl fs i1 i2 fin hi => (m_aload (m_iconst (m_callv hi)))
theorem mobm_396 : xBm bm_396 := fun dl fs i1 i2 fin hi => (m_xgo hi)
theorem mobm_397 : xBm bm_397 := fun dl fs i1 i2 fin hi => (m_aload (m_geti (m_if1 (m_xgo hi) (m_aload (m_geti (m_iload (m_if2 (m_xgo hi) (m_aload (m_geti (m_if1 (m_xgo hi) (m_aload (m_dup (m_geti (m_iconst (m_bin (m_puti (m_xgo hi)))))))))))))))))
theorem mobm_398 : xBm bm_398 := fun dl fs i1 i2 fin hi => (m_ret hi)
theorem mobm_399 : xBm bm_399 := fun dl fs i1 i2 fin hi => (m_aload (m_getr (m_iload (m_ald (m_if1 (m_xgo hi) (m_ret hi))))))
theorem mobm_400 : xBm bm_400 := fun dl fs i1 i2 fin hi => (m_aload (m_getr (m_iconst (m_aload (m_getr (m_iload (m_ald (m_bin (m_ald (m_istore (m_iload (m_if1 (m_xgo hi) m_no))))))))))))
theorem mobm_401 : xBm bm_401 := fun dl fs i1 i2 fin hi => (m_aload (m_getr (m_iload (m_iload (m_ast (m_ret hi))))))
theorem mobm_402 : xBm bm_402 := fun dl fs i1 i2 fin hi => (m_aload (m_dup (m_geti (m_iconst (m_bin (m_puti (m_iconst (m_istore (m_aload (m_getr (m_iload (m_ald (m_istore (m_xgo hi))))))))))))))
theorem mobm_403 : xBm bm_403 := fun dl fs i1 i2 fin hi => (m_iload (m_if1 (m_xgo hi) (m_aload (m_getr (m_iload (m_ald (m_iconst (m_if2 m_no (m_aload (m_getr (m_iload (m_ald (m_istore (m_iload (m_if1 (m_xgo hi) m_no)))))))))))))))
theorem mobm_404 : xBm bm_404 := fun dl fs i1 i2 fin hi => (m_xgo hi)
theorem mobm_405 : xBm bm_405 := fun dl fs i1 i2 fin hi => (m_aload (m_getr (m_iload (m_ald (m_istore (m_xgo hi))))))
theorem mobm_406 : xBm bm_406 := fun dl fs i1 i2 fin hi => (m_ret hi)
theorem mobm_407 : xBm bm_407 := fun dl fs i1 i2 fin hi => (m_aload (m_geti (m_istore (m_aload (m_getr (m_iload (m_ald (m_table (And.intro (m_xgo hi) (And.intro (m_xgo hi) (And.intro (m_xgo hi) (And.intro (m_xgo hi) (And.intro (m_xgo hi) (And.intro (m_xgo hi) (And.intro (m_xgo hi) (And.intro (m_xgo hi) (And.intro (m_xgo hi) (And.intro (m_xgo hi) (And.intro (m_xgo hi) (And.intro m_no (And.intro (m_xgo hi) (And.intro (m_xgo hi) (And.intro (m_xgo hi) (And.intro m_no (And.intro (m_xgo hi) True.intro))))))))))))))))) (m_xgo hi)))))))))
theorem mobm_408 : xBm bm_408 := fun dl fs i1 i2 fin hi => (m_aload (m_iload (m_callv hi)))
theorem mobm_409 : xBm bm_409 := fun dl fs i1 i2 fin hi => (m_xgo hi)
theorem mobm_410 : xBm bm_410 := fun dl fs i1 i2 fin hi => (m_aload (m_iload (m_callv hi)))
theorem mobm_411 : xBm bm_411 := fun dl fs i1 i2 fin hi => (m_xgo hi)
theorem mobm_412 : xBm bm_412 := fun dl fs i1 i2 fin hi => (m_aload (m_getr (m_aload (m_getr (m_iload (m_ald (m_calls hi)))))))
theorem mobm_413 : xBm bm_413 := fun dl fs i1 i2 fin hi => (m_istore (m_aload (m_getr (m_iload (m_ald (m_istore (m_iload (m_iload (m_if2 (m_xgo hi) (m_aload (m_iload (m_iload (m_callv hi)))))))))))))
theorem mobm_414 : xBm bm_414 := fun dl fs i1 i2 fin hi => (m_iload (m_iload (m_if2 (m_xgo hi) (m_aload (m_iload (m_iload (m_callv hi)))))))
theorem mobm_415 : xBm bm_415 := fun dl fs i1 i2 fin hi => (m_aload (m_getr (m_iload (m_ald (m_istore (m_xgo hi))))))
theorem mobm_416 : xBm bm_416 := fun dl fs i1 i2 fin hi => (m_aload (m_iload (m_callv hi)))
theorem mobm_417 : xBm bm_417 := fun dl fs i1 i2 fin hi => (m_aload (m_iload (m_callv hi)))
theorem mobm_418 : xBm bm_418 := fun dl fs i1 i2 fin hi => (m_xgo hi)
theorem mobm_419 : xBm bm_419 := fun dl fs i1 i2 fin hi => (m_aload (m_getr (m_iload (m_ald (m_istore (m_iload (m_if1 (m_xgo hi) (m_aload (m_iload (m_callv hi))))))))))
theorem mobm_420 : xBm bm_420 := fun dl fs i1 i2 fin hi => (m_iload (m_if1 (m_xgo hi) (m_aload (m_iload (m_callv hi)))))
theorem mobm_421 : xBm bm_421 := fun dl fs i1 i2 fin hi => (m_aload (m_getr (m_iload (m_ald (m_istore (m_xgo hi))))))
theorem mobm_422 : xBm bm_422 := fun dl fs i1 i2 fin hi => (m_ret hi)
theorem mobm_423 : xBm bm_423 := fun dl fs i1 i2 fin hi => (m_aload (m_getr (m_iload (m_ald (m_istore (m_iload (m_if1 (m_xgo hi) (m_aload (m_getr (m_iload (m_ald (m_istore (m_aload (m_getr (m_iload (m_ald (m_if1 m_no (m_aload (m_getr (m_iload (m_ald (m_iload (m_xgo hi)))))))))))))))))))))))
theorem mobm_424 : xBm bm_424 := fun dl fs i1 i2 fin hi => (m_iload (m_if1 (m_xgo hi) (m_aload (m_getr (m_iload (m_ald (m_istore (m_aload (m_getr (m_iload (m_ald (m_if1 m_no (m_aload (m_getr (m_iload (m_ald (m_iload (m_if2 (m_xgo hi) m_no))))))))))))))))))
theorem mobm_425 : xBm bm_425 := fun dl fs i1 i2 fin hi => (m_aload (m_getr (m_iload (m_ald (m_if1 (m_xgo hi) m_no)))))
theorem mobm_426 : xBm bm_426 := fun dl fs i1 i2 fin hi => (m_aload (m_getr (m_iload (m_aload (m_getr (m_iload (m_ald (m_ast (m_aload (m_getr (m_iload (m_aload (m_getr (m_iload (m_ald (m_iconst (m_if2 (m_xgo hi) (m_iconst (m_xgo hi)))))))))))))))))))
theorem mobm_427 : xBm bm_427 := fun dl fs i1 i2 fin hi => (m_aload (m_getr (m_iload (m_ald (m_iconst (m_if2 (m_xgo hi) (m_iconst (m_xgo hi))))))))
theorem mobm_428 : xBm bm_428 := fun dl fs i1 i2 fin hi => (m_iconst (m_ast (m_aload (m_getr (m_iload (m_ald (m_istore (m_xgo hi))))))))
theorem mobm_429 : xBm bm_429 := fun dl fs i1 i2 fin hi => (m_ast (m_aload (m_getr (m_iload (m_ald (m_istore (m_xgo hi)))))))
theorem mobm_430 : xBm bm_430 := fun dl fs i1 i2 fin hi => (m_ret hi)
theorem mobm_431 : xBm bm_431 := fun dl fs i1 i2 fin hi => (m_aload (m_getr (m_iload (m_ald (m_istore (m_aload (m_getr (m_iload (m_ald (m_if1 (m_xgo hi) (m_aload (m_getr (m_iload (m_aload (m_getr (m_aload (m_getr (m_iload (m_ald (m_ald (m_ast (m_aload (m_xgo hi)))))))))))))))))))))))
theorem mobm_432 : xBm bm_432 := fun dl fs i1 i2 fin hi => (m_aload (m_getr (m_iload (m_ald (m_if1 m_no (m_aload (m_getr (m_iload (m_iconst (m_aload (m_getr (m_iload (m_ald (m_bin (m_ast (m_xgo hi))))))))))))))))
theorem mobm_433 : xBm bm_433 := fun dl fs i1 i2 fin hi => (m_ret hi)
theorem mobm_434 : xBm bm_434 := fun dl fs i1 i2 fin hi => (m_iload (m_istore (m_iload (m_if1 (m_xgo hi) (m_aload (m_getr (m_iload (m_ald (m_iconst (m_if2 (m_xgo hi) (m_aload (m_aload (m_getr (m_iload (m_ald (m_iload (m_iload (m_aload (m_getr (m_iload (m_ald (m_callv hi))))))))))))))))))))))
theorem mobm_435 : xBm bm_435 := fun dl fs i1 i2 fin hi => (m_iload (m_if1 (m_xgo hi) (m_aload (m_getr (m_iload (m_ald (m_iconst (m_if2 (m_xgo hi) (m_aload (m_aload (m_getr (m_iload (m_ald (m_iload (m_iload (m_aload (m_getr (m_iload (m_ald (m_callv hi))))))))))))))))))))
theorem mobm_436 : xBm bm_436 := fun dl fs i1 i2 fin hi => (m_aload (m_getr (m_iload (m_ald (m_iconst (m_if2 (m_xgo hi) (m_aload (m_iload (m_callv hi)))))))))
theorem mobm_437 : xBm bm_437 := fun dl fs i1 i2 fin hi => (m_aload (m_getr (m_iload (m_ald (m_istore (m_iload (m_if1 (m_xgo hi) (m_aload (m_getr (m_iload (m_ald (m_if1 (m_xgo hi) (m_aload (m_iload (m_iload (m_callv hi))))))))))))))))
theorem mobm_438 : xBm bm_438 := fun dl fs i1 i2 fin hi => (m_iload (m_if1 (m_xgo hi) (m_aload (m_getr (m_iload (m_ald (m_if1 (m_xgo hi) (m_aload (m_iload (m_iload (m_callv hi)))))))))))
theorem mobm_439 : xBm bm_439 := fun dl fs i1 i2 fin hi => (m_aload (m_getr (m_iload (m_ald (m_istore (m_xgo hi))))))
theorem mobm_440 : xBm bm_440 := fun dl fs i1 i2 fin hi => (m_iload (m_istore (m_xgo hi)))
theorem mobm_441 : xBm bm_441 := fun dl fs i1 i2 fin hi => (m_ret hi)
theorem mobm_442 : xBm bm_442 := fun dl fs i1 i2 fin hi => (m_aload (m_getr (m_aload (m_getr (m_iload (m_ald (m_ald (m_iload (m_if2 (m_xgo hi) m_no)))))))))
theorem mobm_443 : xBm bm_443 := fun dl fs i1 i2 fin hi => (m_aload (m_getr (m_aload (m_getr (m_iload (m_ald (m_ald (m_istore (m_aload (m_getr (m_aload (m_getr (m_iload (m_ald (m_calls hi)))))))))))))))
theorem mobm_444 : xBm bm_444 := fun dl fs i1 i2 fin hi => (m_istore (m_iload (m_if1 (m_xgo hi) m_no)))
theorem mobm_445 : xBm bm_445 := fun dl fs i1 i2 fin hi => (m_iload (m_if1 (m_xgo hi) (m_aload (m_getr (m_iload (m_ald (m_if1 (m_xgo hi) (m_iload (m_iload (m_if2 (m_xgo hi) m_no))))))))))
theorem mobm_446 : xBm bm_446 := fun dl fs i1 i2 fin hi => (m_aload (m_getr (m_iload (m_ald (m_if1 (m_xgo hi) (m_aload (m_getr (m_iload (m_aload (m_geti (m_ast (m_xgo hi))))))))))))
theorem mobm_447 : xBm bm_447 := fun dl fs i1 i2 fin hi => (m_aload (m_getr (m_iload (m_dup2 (m_ald (m_iconst (m_bin (m_ast (m_aload (m_getr (m_aload (m_geti (m_iload (m_ast (m_aload (m_getr (m_aload (m_geti (m_iload (m_ast (m_aload (m_getr (m_xgo hi)))))))))))))))))))))))
theorem mobm_448 : xBm bm_448 := fun dl fs i1 i2 fin hi => (m_iload (m_iload (m_if2 (m_xgo hi) (m_aload (m_iload (m_iload (m_callv hi)))))))
theorem mobm_449 : xBm bm_449 := fun dl fs i1 i2 fin hi => (m_aload (m_getr (m_iload (m_ald (m_istore (m_xgo hi))))))
theorem mobm_450 : xBm bm_450 := fun dl fs i1 i2 fin hi => (m_aload (m_iload (m_callv hi)))
theorem mobm_451 : xBm bm_451 := fun dl fs i1 i2 fin hi => (m_aload (m_iload (m_callv hi)))
theorem mobm_452 : xBm bm_452 := fun dl fs i1 i2 fin hi => (m_iload (m_iret hi))
theorem mobm_453 : xBm bm_453 := fun dl fs i1 i2 fin hi => (m_aload (m_getr (m_aload (m_getr (m_iload (m_ald (m_calls hi)))))))
theorem mobm_454 : xBm bm_454 := fun dl fs i1 i2 fin hi => (m_istore (m_aload (m_getr (m_iload (m_ald (m_iconst (m_if2 (m_xgo hi) m_no)))))))
theorem mobm_455 : xBm bm_455 := fun dl fs i1 i2 fin hi => (m_iconst (m_istore (m_aload (m_geti (m_istore (m_iload (m_if1 (m_xgo hi) m_no)))))))
theorem mobm_456 : xBm bm_456 := fun dl fs i1 i2 fin hi => (m_aload (m_getr (m_iload (m_ald (m_istore (m_iload (m_if1 (m_xgo hi) (m_iload (m_if1 (m_xgo hi) m_no)))))))))
theorem mobm_457 : xBm bm_457 := fun dl fs i1 i2 fin hi => (m_iload (m_if1 (m_xgo hi) (m_iload (m_if1 (m_xgo hi) m_no))))
theorem mobm_458 : xBm bm_458 := fun dl fs i1 i2 fin hi => (m_aload (m_iload (m_callv hi)))
theorem mobm_459 : xBm bm_459 := fun dl fs i1 i2 fin hi => (m_aload (m_getr (m_iload (m_ald (m_istore (m_xgo hi))))))
theorem mobm_460 : xBm bm_460 := fun dl fs i1 i2 fin hi => (m_aload (m_iload (m_callv hi)))
theorem mobm_461 : xBm bm_461 := fun dl fs i1 i2 fin hi => (m_ret hi)
theorem mobm_462 : xBm bm_462 := fun dl fs i1 i2 fin hi => (m_aload (m_dup (m_geti (m_iconst (m_bin (m_puti (m_aload (m_iconst (m_puti (m_aload (m_aload (m_getr (m_iload (m_ald (m_iconst (m_callv hi))))))))))))))))
theorem mobm_463 : xBm bm_463 := fun dl fs i1 i2 fin hi => (m_aload (m_getr (m_aload (m_getr (m_iload (m_ald (m_ald (m_istore (m_aload (m_getr (m_iload (m_ald (m_iload (m_if2 (m_xgo hi) (m_aload (m_getr (m_iload (m_aload (m_geti (m_ast (m_ret hi)))))))))))))))))))))
theorem mobm_464 : xBm bm_464 := fun dl fs i1 i2 fin hi => (m_iload (m_istore (m_iload (m_if1 (m_xgo hi) (m_aload (m_getr (m_iload (m_ald (m_iconst (m_if2 (m_xgo hi) (m_aload (m_getr (m_aload (m_getr (m_iload (m_ald (m_ald (m_istore (m_iload (m_if1 (m_xgo hi) m_no))))))))))))))))))))
theorem mobm_465 : xBm bm_465 := fun dl fs i1 i2 fin hi => (m_iload (m_if1 (m_xgo hi) (m_aload (m_getr (m_iload (m_ald (m_iconst (m_if2 (m_xgo hi) (m_aload (m_getr (m_aload (m_getr (m_iload (m_ald (m_ald (m_istore (m_iload (m_if1 (m_xgo hi) m_no))))))))))))))))))
theorem mobm_466 : xBm bm_466 := fun dl fs i1 i2 fin hi => (m_aload (m_getr (m_iload (m_iload (m_ast (m_xgo hi))))))
theorem mobm_467 : xBm bm_467 := fun dl fs i1 i2 fin hi => (m_aload (m_getr (m_iload (m_ald (m_iconst (m_if2 (m_xgo hi) (m_aload (m_getr (m_iload (m_ald (m_istore (m_aload (m_getr (m_iload (m_ald (m_aload (m_geti (m_if2 (m_xgo hi) (m_iload (m_if1 (m_xgo hi) m_no))))))))))))))))))))
theorem mobm_468 : xBm bm_468 := fun dl fs i1 i2 fin hi => (m_aload (m_getr (m_iload (m_ald (m_aload (m_geti (m_if2 (m_xgo hi) (m_iload (m_if1 (m_xgo hi) (m_aload (m_getr (m_iload (m_aload (m_geti (m_ast (m_aload (m_getr (m_iload (m_aload (m_geti (m_ast (m_aload (m_xgo hi)))))))))))))))))))))))
theorem mobm_469 : xBm bm_469 := fun dl fs i1 i2 fin hi => (m_aload (m_getr (m_iload (m_aload (m_getr (m_iload (m_ald (m_ast (m_xgo hi)))))))))
theorem mobm_470 : xBm bm_470 := fun dl fs i1 i2 fin hi => (m_aload (m_getr (m_iload (m_aload (m_getr (m_iload (m_ald (m_ast (m_xgo hi)))))))))
theorem mobm_471 : xBm bm_471 := fun dl fs i1 i2 fin hi => (m_aload (m_getr (m_iload (m_ald (m_istore (m_iload (m_if1 (m_xgo hi) (m_aload (m_getr (m_iload (m_ald (m_if1 (m_xgo hi) (m_aload (m_iload (m_iload (m_callv hi))))))))))))))))
theorem mobm_472 : xBm bm_472 := fun dl fs i1 i2 fin hi => (m_iload (m_if1 (m_xgo hi) (m_aload (m_getr (m_iload (m_ald (m_if1 (m_xgo hi) (m_aload (m_iload (m_iload (m_callv hi)))))))))))
theorem mobm_473 : xBm bm_473 := fun dl fs i1 i2 fin hi => (m_aload (m_getr (m_iload (m_ald (m_istore (m_xgo hi))))))
theorem mobm_474 : xBm bm_474 := fun dl fs i1 i2 fin hi => (m_iload (m_istore (m_xgo hi)))
theorem mobm_475 : xBm bm_475 := fun dl fs i1 i2 fin hi => (m_ret hi)
theorem mobm_476 : xBm bm_476 := fun dl fs i1 i2 fin hi => (m_aload (m_geti (m_istore (m_iload (m_if1 (m_xgo hi) (m_aload (m_getr (m_iload (m_ald (m_iconst (m_if2 (m_xgo hi) (m_aload (m_iload (m_callv hi))))))))))))))
theorem mobm_477 : xBm bm_477 := fun dl fs i1 i2 fin hi => (m_iload (m_if1 (m_xgo hi) (m_aload (m_getr (m_iload (m_ald (m_iconst (m_if2 (m_xgo hi) (m_aload (m_iload (m_callv hi)))))))))))
theorem mobm_478 : xBm bm_478 := fun dl fs i1 i2 fin hi => (m_aload (m_getr (m_iload (m_ald (m_iconst (m_if2 (m_xgo hi) (m_aload (m_iload (m_callv hi)))))))))
theorem mobm_479 : xBm bm_479 := fun dl fs i1 i2 fin hi => (m_aload (m_getr (m_iload (m_ald (m_istore (m_xgo hi))))))
theorem mobm_480 : xBm bm_480 := fun dl fs i1 i2 fin hi => (m_aload (m_geti (m_istore (m_iload (m_if1 (m_xgo hi) (m_aload (m_getr (m_iload (m_ald (m_iconst (m_if2 (m_xgo hi) (m_aload (m_iload (m_callv hi))))))))))))))
theorem mobm_481 : xBm bm_481 := fun dl fs i1 i2 fin hi => (m_iload (m_if1 (m_xgo hi) (m_aload (m_getr (m_iload (m_ald (m_iconst (m_if2 (m_xgo hi) (m_aload (m_iload (m_callv hi)))))))))))
theorem mobm_482 : xBm bm_482 := fun dl fs i1 i2 fin hi => (m_aload (m_getr (m_iload (m_ald (m_iconst (m_if2 (m_xgo hi) (m_aload (m_iload (m_callv hi)))))))))
theorem mobm_483 : xBm bm_483 := fun dl fs i1 i2 fin hi => (m_aload (m_getr (m_iload (m_ald (m_iconst (m_if2 (m_xgo hi) (m_aload (m_iload (m_iload (m_callv hi))))))))))
theorem mobm_484 : xBm bm_484 := fun dl fs i1 i2 fin hi => (m_aload (m_getr (m_iload (m_ald (m_istore (m_xgo hi))))))
theorem mobm_485 : xBm bm_485 := fun dl fs i1 i2 fin hi => (m_iconst (m_istore (m_aload (m_geti (m_istore (m_iload (m_if1 (m_xgo hi) (m_aload (m_getr (m_iload (m_ald (m_iconst (m_if2 (m_xgo hi) (m_aload (m_iload (m_iload (m_iload (m_callv hi))))))))))))))))))
theorem mobm_486 : xBm bm_486 := fun dl fs i1 i2 fin hi => (m_iload (m_if1 (m_xgo hi) (m_aload (m_getr (m_iload (m_ald (m_iconst (m_if2 (m_xgo hi) (m_aload (m_iload (m_iload (m_iload (m_callv hi)))))))))))))
theorem mobm_487 : xBm bm_487 := fun dl fs i1 i2 fin hi => (m_istore (m_aload (m_getr (m_iload (m_ald (m_istore (m_xgo hi)))))))
theorem mobm_488 : xBm bm_488 := fun dl fs i1 i2 fin hi => (m_aload (m_getr (m_iload (m_ald (m_istore (m_xgo hi))))))
theorem mobm_489 : xBm bm_489 := fun dl fs i1 i2 fin hi => (m_ret hi)
theorem mobm_490 : xBm bm_490 := fun dl fs i1 i2 fin hi => (m_aload (m_geti (m_if1 (m_xgo hi) (m_aload (m_iload (m_callv hi))))))
theorem mobm_491 : xBm bm_491 := fun dl fs i1 i2 fin hi => (m_if1 (m_xgo hi) m_no)
theorem mobm_492 : xBm bm_492 := fun dl fs i1 i2 fin hi => (m_ret hi)
theorem mobm_493 : xBm bm_493 := fun dl fs i1 i2 fin hi => (m_iconst (m_istore (m_iload (m_istore (m_iload (m_iload (m_if2 (m_xgo hi) (m_iload (m_aload (m_aload (m_getr (m_iload (m_ald (m_iload (m_callv hi)))))))))))))))
theorem mobm_494 : xBm bm_494 := fun dl fs i1 i2 fin hi => (m_iload (m_iload (m_if2 (m_xgo hi) (m_iload (m_aload (m_aload (m_getr (m_iload (m_ald (m_iload (m_callv hi)))))))))))
theorem mobm_495 : xBm bm_495 := fun dl fs i1 i2 fin hi => (m_if1 (m_xgo hi) (m_iconst (m_xgo hi)))
theorem mobm_496 : xBm bm_496 := fun dl fs i1 i2 fin hi => (m_iconst (m_bin (m_istore (m_iinc (m_xgo hi)))))
theorem mobm_497 : xBm bm_497 := fun dl fs i1 i2 fin hi => (m_bin (m_istore (m_iinc (m_xgo hi))))
theorem mobm_498 : xBm bm_498 := fun dl fs i1 i2 fin hi => (m_iload (m_iret hi))
theorem mobm_499 : xBm bm_499 := fun dl fs i1 i2 fin hi => (m_aload (m_iload (m_iload (m_callv hi))))
theorem mobm_500 : xBm bm_500 := fun dl fs i1 i2 fin hi => (m_istore (m_iload (m_if1 (m_xgo hi) (m_aload (m_getr (m_iload (m_ald (m_iconst (m_if2 (m_xgo hi) (m_iconst (m_xgo hi)))))))))))
theorem mobm_501 : xBm bm_501 := fun dl fs i1 i2 fin hi => (m_iconst (m_zret hi))
theorem mobm_502 : xBm bm_502 := fun dl fs i1 i2 fin hi => (m_zret hi)
theorem mobm_503 : xBm bm_503 := fun dl fs i1 i2 fin hi => (m_aload (m_getr (m_iload (m_ald (m_istore (m_iconst (m_istore (m_iload (m_iload (m_if2 (m_xgo hi) (m_aload (m_getr (m_iload (m_ald (m_istore (m_iinc (m_xgo hi)))))))))))))))))
theorem mobm_504 : xBm bm_504 := fun dl fs i1 i2 fin hi => (m_iload (m_iload (m_if2 (m_xgo hi) (m_aload (m_getr (m_iload (m_ald (m_istore (m_iinc (m_xgo hi))))))))))
theorem mobm_505 : xBm bm_505 := fun dl fs i1 i2 fin hi => (m_iload (m_iret hi))
theorem mobm_506 : xBm bm_506 := fun dl fs i1 i2 fin hi => (m_aload (m_getr (m_iload (m_ald (m_istore (m_iload (m_istore (m_iload (m_calls hi)))))))))
theorem mobm_507 : xBm bm_507 := fun dl fs i1 i2 fin hi => (m_if1 (m_xgo hi) (m_iload (m_calls hi)))
theorem mobm_508 : xBm bm_508 := fun dl fs i1 i2 fin hi => (m_if1 (m_xgo hi) (m_iload (m_iload (m_if2 (m_xgo hi) (m_aload (m_getr (m_iload (m_ald (m_calls hi)))))))))
theorem mobm_509 : xBm bm_509 := fun dl fs i1 i2 fin hi => (m_iload (m_iload (m_if2 (m_xgo hi) (m_aload (m_getr (m_iload (m_ald (m_calls hi))))))))
theorem mobm_510 : xBm bm_510 := fun dl fs i1 i2 fin hi => (m_if1 (m_xgo hi) (m_iinc (m_xgo hi)))
theorem mobm_511 : xBm bm_511 := fun dl fs i1 i2 fin hi => (m_iload (m_calls hi))
theorem mobm_512 : xBm bm_512 := fun dl fs i1 i2 fin hi => (m_if1 (m_xgo hi) (m_aload (m_iload (m_iload (m_callv hi)))))
theorem mobm_513 : xBm bm_513 := fun dl fs i1 i2 fin hi => (m_xgo hi)
theorem mobm_514 : xBm bm_514 := fun dl fs i1 i2 fin hi => (m_iconst (m_istore (m_iload (m_calls hi))))
theorem mobm_515 : xBm bm_515 := fun dl fs i1 i2 fin hi => (m_istore (m_iload (m_calls hi)))
theorem mobm_516 : xBm bm_516 := fun dl fs i1 i2 fin hi => (m_if1 (m_xgo hi) (m_iconst (m_xgo hi)))
theorem mobm_517 : xBm bm_517 := fun dl fs i1 i2 fin hi => (m_iload (m_iconst (m_if2 (m_xgo hi) (m_iload (m_iload (m_bin (m_iconst (m_if2 (m_xgo hi) (m_iconst (m_xgo hi))))))))))
theorem mobm_518 : xBm bm_518 := fun dl fs i1 i2 fin hi => (m_iload (m_if1 (m_xgo hi) (m_iconst (m_iload (m_bin (m_xgo hi))))))
theorem mobm_519 : xBm bm_519 := fun dl fs i1 i2 fin hi => (m_iconst (m_istore (m_aload (m_iload (m_iload (m_iload (m_iconst (m_if2 (m_xgo hi) (m_iload (m_iconst (m_if2 (m_xgo hi) (m_xgo hi))))))))))))
theorem mobm_520 : xBm bm_520 := fun dl fs i1 i2 fin hi => (m_istore (m_aload (m_iload (m_iload (m_iload (m_iconst (m_if2 (m_xgo hi) (m_iload (m_iconst (m_if2 (m_xgo hi) (m_xgo hi)))))))))))
theorem mobm_521 : xBm bm_521 := fun dl fs i1 i2 fin hi => (m_aload (m_iload (m_iload (m_iload (m_bin (m_callv hi))))))
theorem mobm_522 : xBm bm_522 := fun dl fs i1 i2 fin hi => (m_xgo hi)
theorem mobm_523 : xBm bm_523 := fun dl fs i1 i2 fin hi => (m_iconst (m_callv hi))
theorem mobm_524 : xBm bm_524 := fun dl fs i1 i2 fin hi => (m_callv hi)
theorem mobm_525 : xBm bm_525 := fun dl fs i1 i2 fin hi => (m_iload (m_iret hi))
theorem mobm_526 : xBm bm_526 := fun dl fs i1 i2 fin hi => (m_iload (m_calls hi))
theorem mobm_527 : xBm bm_527 := fun dl fs i1 i2 fin hi => (m_if1 (m_xgo hi) (m_iconst (m_istore (m_iload (m_iload (m_if2 (m_xgo hi) (m_aload (m_getr (m_iload (m_ald (m_calls hi)))))))))))
theorem mobm_528 : xBm bm_528 := fun dl fs i1 i2 fin hi => (m_iload (m_iload (m_if2 (m_xgo hi) (m_aload (m_getr (m_iload (m_ald (m_calls hi))))))))
theorem mobm_529 : xBm bm_529 := fun dl fs i1 i2 fin hi => (m_if1 (m_xgo hi) (m_iload (m_iload (m_bin (m_iconst (m_if2 (m_xgo hi) (m_iconst (m_iload (m_bin (m_aload (m_getr (m_iload (m_ald (m_bin (m_iconst (m_bin (m_istore (m_iinc (m_xgo hi)))))))))))))))))))
theorem mobm_530 : xBm bm_530 := fun dl fs i1 i2 fin hi => (m_iload (m_iload (m_if2 (m_xgo hi) (m_aload (m_getr (m_iload (m_ald (m_calls hi))))))))
theorem mobm_531 : xBm bm_531 := fun dl fs i1 i2 fin hi => (m_if1 (m_xgo hi) m_no)
theorem mobm_532 : xBm bm_532 := fun dl fs i1 i2 fin hi => (m_aload (m_iconst (m_iload (m_iload (m_callv hi)))))
theorem mobm_533 : xBm bm_533 := fun dl fs i1 i2 fin hi => (m_iload (m_iret hi))
theorem mobm_534 : xBm bm_534 := fun dl fs i1 i2 fin hi => (m_iload (m_calls hi))
theorem mobm_535 : xBm bm_535 := fun dl fs i1 i2 fin hi => (m_if1 (m_xgo hi) (m_aload (m_iload (m_iload (m_callv hi)))))
theorem mobm_536 : xBm bm_536 := fun dl fs i1 i2 fin hi => (m_istore (m_aload (m_iload (m_iload (m_iload (m_bin (m_callv hi)))))))
theorem mobm_537 : xBm bm_537 := fun dl fs i1 i2 fin hi => (m_istore (m_aload (m_iload (m_iload (m_iload (m_iconst (m_if2 (m_xgo hi) (m_aload (m_iload (m_iload (m_iload (m_bin (m_callv hi)))))))))))))
theorem mobm_538 : xBm bm_538 := fun dl fs i1 i2 fin hi => (m_xgo hi)
theorem mobm_539 : xBm bm_539 := fun dl fs i1 i2 fin hi => (m_iconst (m_callv hi))
theorem mobm_540 : xBm bm_540 := fun dl fs i1 i2 fin hi => (m_callv hi)
theorem mobm_541 : xBm bm_541 := fun dl fs i1 i2 fin hi => (m_iload (m_iret hi))
theorem mobm_542 : xBm bm_542 := fun dl fs i1 i2 fin hi => (m_text (m_iload (m_callt hi)))
theorem mobm_543 : xBm bm_543 := fun dl fs i1 i2 fin hi => (m_istore (m_iload (m_if1 (m_xgo hi) m_no)))
theorem mobm_544 : xBm bm_544 := fun dl fs i1 i2 fin hi => (m_aload (m_iconst (m_iload (m_bin (m_iload (m_iconst (m_callv hi)))))))
theorem mobm_545 : xBm bm_545 := fun dl fs i1 i2 fin hi => (m_iload (m_iconst (m_bin (m_iret hi))))
theorem mobm_546 : xBm bm_546 := fun dl fs i1 i2 fin hi => (m_aload (m_iconst (m_callv hi)))
theorem mobm_547 : xBm bm_547 := fun dl fs i1 i2 fin hi => (m_if1 (m_xgo hi) (m_aload (m_getr (m_aload (m_geti (m_ald (m_istore (m_aload (m_iconst (m_callv hi))))))))))
theorem mobm_548 : xBm bm_548 := fun dl fs i1 i2 fin hi => (m_aload (m_iconst (m_callv hi)))
theorem mobm_549 : xBm bm_549 := fun dl fs i1 i2 fin hi => (m_iload (m_iret hi))
theorem mobm_550 : xBm bm_550 := fun dl fs i1 i2 fin hi => (m_aload (m_getr (m_aload (m_geti (m_ald (m_istore (m_aload (m_iconst (m_callv hi)))))))))
theorem mobm_551 : xBm bm_551 := fun dl fs i1 i2 fin hi => (m_iload (m_iret hi))
theorem mobm_552 : xBm bm_552 := fun dl fs i1 i2 fin hi => (m_aload (m_geti (m_istore (m_aload (m_aload (m_geti (m_callv hi)))))))
theorem mobm_553 : xBm bm_553 := fun dl fs i1 i2 fin hi => (m_istore (m_aload (m_callv hi)))
theorem mobm_554 : xBm bm_554 := fun dl fs i1 i2 fin hi => (m_istore (m_aload (m_geti (m_if1 (m_xgo hi) m_no))))
theorem mobm_555 : xBm bm_555 := fun dl fs i1 i2 fin hi => (m_aload (m_iload (m_if1 (m_xgo hi) (m_iconst (m_xgo hi)))))
theorem mobm_556 : xBm bm_556 := fun dl fs i1 i2 fin hi => (m_iconst (m_iload (m_iload (m_if1 (m_xgo hi) (m_iconst (m_xgo hi))))))
theorem mobm_557 : xBm bm_557 := fun dl fs i1 i2 fin hi => (m_iload (m_iload (m_if1 (m_xgo hi) (m_iconst (m_xgo hi)))))
theorem mobm_558 : xBm bm_558 := fun dl fs i1 i2 fin hi => (m_iload (m_callv hi))
theorem mobm_559 : xBm bm_559 := fun dl fs i1 i2 fin hi => (m_callv hi)
theorem mobm_560 : xBm bm_560 := fun dl fs i1 i2 fin hi => (m_iret hi)
theorem mobm_561 : xBm bm_561 := fun dl fs i1 i2 fin hi => (m_aload (m_geti (m_if1 (m_xgo hi) m_no)))
theorem mobm_562 : xBm bm_562 := fun dl fs i1 i2 fin hi => (m_aload (m_geti (m_istore (m_aload (m_iconst (m_callv hi))))))
theorem mobm_563 : xBm bm_563 := fun dl fs i1 i2 fin hi => (m_if1 (m_xgo hi) m_no)
theorem mobm_564 : xBm bm_564 := fun dl fs i1 i2 fin hi => (m_aload (m_callv hi))
theorem mobm_565 : xBm bm_565 := fun dl fs i1 i2 fin hi => (m_istore (m_aload (m_geti (m_if1 (m_xgo hi) (m_aload (m_callv hi))))))
theorem mobm_566 : xBm bm_566 := fun dl fs i1 i2 fin hi => (m_if1 (m_xgo hi) (m_iload (m_iret hi)))
theorem mobm_567 : xBm bm_567 := fun dl fs i1 i2 fin hi => (m_aload (m_iconst (m_iload (m_iconst (m_callv hi)))))
theorem mobm_568 : xBm bm_568 := fun dl fs i1 i2 fin hi => (m_istore (m_aload (m_iload (m_iconst (m_iload (m_callv hi))))))
theorem mobm_569 : xBm bm_569 := fun dl fs i1 i2 fin hi => (m_istore (m_aload (m_geti (m_if1 (m_xgo hi) (m_aload (m_callv hi))))))
theorem mobm_570 : xBm bm_570 := fun dl fs i1 i2 fin hi => (m_aload (m_geti (m_if1 (m_xgo hi) (m_aload (m_callv hi)))))
theorem mobm_571 : xBm bm_571 := fun dl fs i1 i2 fin hi => (m_if1 (m_xgo hi) (m_aload (m_iload (m_iload (m_aload (m_callv hi))))))
theorem mobm_572 : xBm bm_572 := fun dl fs i1 i2 fin hi => (m_callv hi)
theorem mobm_573 : xBm bm_573 := fun dl fs i1 i2 fin hi => (m_istore (m_xgo hi))
theorem mobm_574 : xBm bm_574 := fun dl fs i1 i2 fin hi => (m_iload (m_iret hi))
theorem mobm_575 : xBm bm_575 := fun dl fs i1 i2 fin hi => (m_aload (m_geti (m_istore (m_aload (m_geti (m_if1 (m_xgo hi) m_no))))))
theorem mobm_576 : xBm bm_576 := fun dl fs i1 i2 fin hi => (m_aload (m_iconst (m_callv hi)))
theorem mobm_577 : xBm bm_577 := fun dl fs i1 i2 fin hi => (m_if1 (m_xgo hi) (m_aload (m_iconst (m_iload (m_iconst (m_callv hi))))))
theorem mobm_578 : xBm bm_578 := fun dl fs i1 i2 fin hi => (m_iret hi)
theorem mobm_579 : xBm bm_579 := fun dl fs i1 i2 fin hi => (m_aload (m_iconst (m_callv hi)))
theorem mobm_580 : xBm bm_580 := fun dl fs i1 i2 fin hi => (m_if1 (m_xgo hi) m_no)
theorem mobm_581 : xBm bm_581 := fun dl fs i1 i2 fin hi => (m_aload (m_iconst (m_callv hi)))
theorem mobm_582 : xBm bm_582 := fun dl fs i1 i2 fin hi => (m_if1 (m_xgo hi) (m_aload (m_iconst (m_iload (m_iconst (m_aload (m_getr (m_iload (m_ald (m_bin (m_callv hi)))))))))))
theorem mobm_583 : xBm bm_583 := fun dl fs i1 i2 fin hi => (m_iret hi)
theorem mobm_584 : xBm bm_584 := fun dl fs i1 i2 fin hi => (m_aload (m_callv hi))
theorem mobm_585 : xBm bm_585 := fun dl fs i1 i2 fin hi => (m_iconst (m_if2 (m_xgo hi) (m_aload (m_callv hi))))
theorem mobm_586 : xBm bm_586 := fun dl fs i1 i2 fin hi => (m_iconst (m_if2 (m_xgo hi) m_no))
theorem mobm_587 : xBm bm_587 := fun dl fs i1 i2 fin hi => (m_aload (m_callv hi))
theorem mobm_588 : xBm bm_588 := fun dl fs i1 i2 fin hi => (m_iconst (m_if2 (m_xgo hi) (m_iconst (m_xgo hi))))
theorem mobm_589 : xBm bm_589 := fun dl fs i1 i2 fin hi => (m_iconst (m_istore (m_aload (m_callv hi))))
theorem mobm_590 : xBm bm_590 := fun dl fs i1 i2 fin hi => (m_istore (m_aload (m_callv hi)))
theorem mobm_591 : xBm bm_591 := fun dl fs i1 i2 fin hi => (m_aload (m_iload (m_if1 (m_xgo hi) (m_iconst (m_xgo hi)))))
theorem mobm_592 : xBm bm_592 := fun dl fs i1 i2 fin hi => (m_iconst (m_iload (m_iconst (m_callv hi))))
theorem mobm_593 : xBm bm_593 := fun dl fs i1 i2 fin hi => (m_iload (m_iconst (m_callv hi)))
theorem mobm_594 : xBm bm_594 := fun dl fs i1 i2 fin hi => (m_istore (m_aload (m_iload (m_if1 (m_xgo hi) (m_iconst (m_xgo hi))))))
theorem mobm_595 : xBm bm_595 := fun dl fs i1 i2 fin hi => (m_iconst (m_callv hi))
theorem mobm_596 : xBm bm_596 := fun dl fs i1 i2 fin hi => (m_callv hi)
theorem mobm_597 : xBm bm_597 := fun dl fs i1 i2 fin hi => (m_if1 (m_xgo hi) (m_aload (m_dup (m_geti (m_iconst (m_bin (m_puti (m_iload (m_iret hi)))))))))
theorem mobm_598 : xBm bm_598 := fun dl fs i1 i2 fin hi => (m_aload (m_iload (m_iconst (m_aload (m_callv hi)))))
theorem mobm_599 : xBm bm_599 := fun dl fs i1 i2 fin hi => (m_callv hi)
theorem mobm_600 : xBm bm_600 := fun dl fs i1 i2 fin hi => (m_istore (m_iconst (m_istore (m_aload (m_geti (m_if1 (m_xgo hi) (m_iload (m_if1 (m_xgo hi) (m_iload (m_iconst (m_if2 (m_xgo hi) (m_aload (m_iconst (m_callv hi))))))))))))))
theorem mobm_601 : xBm bm_601 := fun dl fs i1 i2 fin hi => (m_if1 (m_xgo hi) m_no)
theorem mobm_602 : xBm bm_602 := fun dl fs i1 i2 fin hi => (m_aload (m_iload (m_if1 (m_xgo hi) m_no)))
theorem mobm_603 : xBm bm_603 := fun dl fs i1 i2 fin hi => (m_iconst (m_callv hi))
theorem mobm_604 : xBm bm_604 := fun dl fs i1 i2 fin hi => (m_iload (m_if1 (m_xgo hi) m_no))
theorem mobm_605 : xBm bm_605 := fun dl fs i1 i2 fin hi => (m_iload (m_iconst (m_if2 m_no (m_aload (m_getr (m_iload (m_ald (m_iret hi))))))))
theorem mobm_606 : xBm bm_606 := fun dl fs i1 i2 fin hi => (m_aload (m_geti (m_istore (m_aload (m_dup (m_geti (m_iconst (m_bin (m_puti (m_aload (m_getr (m_iload (m_iload (m_un (m_ast (m_aload (m_getr (m_iload (m_iload (m_ast (m_aload (m_getr (m_xgo hi)))))))))))))))))))))))
theorem mobm_607 : xBm bm_607 := fun dl fs i1 i2 fin hi => (m_aload (m_callv hi))
theorem mobm_608 : xBm bm_608 := fun dl fs i1 i2 fin hi => (m_istore (m_iload (m_istore (m_iconst (m_istore (m_aload (m_geti (m_if1 (m_xgo hi) (m_aload (m_aload (m_geti (m_callv hi))))))))))))
theorem mobm_609 : xBm bm_609 := fun dl fs i1 i2 fin hi => (m_aload (m_geti (m_if1 (m_xgo hi) (m_aload (m_aload (m_geti (m_callv hi)))))))
theorem mobm_610 : xBm bm_610 := fun dl fs i1 i2 fin hi => (m_if1 (m_xgo hi) (m_aload (m_iconst (m_aload (m_geti (m_iconst (m_callv hi)))))))
theorem mobm_611 : xBm bm_611 := fun dl fs i1 i2 fin hi => (m_istore (m_aload (m_dup (m_geti (m_iconst (m_bin (m_puti (m_aload (m_getr (m_iload (m_iload (m_ast (m_iload (m_if1 m_no (m_iload (m_istore (m_xgo hi)))))))))))))))))
theorem mobm_612 : xBm bm_612 := fun dl fs i1 i2 fin hi => (m_iload (m_istore (m_aload (m_callv hi))))
theorem mobm_613 : xBm bm_613 := fun dl fs i1 i2 fin hi => (m_istore (m_aload (m_geti (m_if1 (m_xgo hi) (m_aload (m_getr (m_aload (m_getr (m_iload (m_ald (m_iload (m_ast (m_xgo hi)))))))))))))
theorem mobm_614 : xBm bm_614 := fun dl fs i1 i2 fin hi => (m_iload (m_iret hi))
theorem mobm_615 : xBm bm_615 := fun dl fs i1 i2 fin hi => (m_aload (m_getr (m_iload (m_ald (m_if1 (m_xgo hi) (m_aload (m_aload (m_geti (m_if1 (m_xgo hi) m_no)))))))))
theorem mobm_616 : xBm bm_616 := fun dl fs i1 i2 fin hi => (m_aload (m_aload (m_getr (m_iload (m_ald (m_aload (m_getr (m_iload (m_ald (m_callv hi))))))))))
theorem mobm_617 : xBm bm_617 := fun dl fs i1 i2 fin hi => (m_callv hi)
theorem mobm_618 : xBm bm_618 := fun dl fs i1 i2 fin hi => (m_iret hi)
theorem mobm_619 : xBm bm_619 := fun dl fs i1 i2 fin hi => (m_aload (m_aload (m_aload (m_iload (m_aload (m_getr (m_iload (m_ald (m_callv hi)))))))))
theorem mobm_620 : xBm bm_620 := fun dl fs i1 i2 fin hi => (m_aload (m_getr (m_iload (m_ald (m_callv hi)))))
theorem mobm_621 : xBm bm_621 := fun dl fs i1 i2 fin hi => (m_callv hi)
theorem mobm_622 : xBm bm_622 := fun dl fs i1 i2 fin hi => (m_iret hi)
theorem mobm_623 : xBm bm_623 := fun dl fs i1 i2 fin hi => (m_aload (m_aload (m_getr (m_iload (m_ald (m_callv hi))))))
theorem mobm_624 : xBm bm_624 := fun dl fs i1 i2 fin hi => (m_iconst (m_bin (m_iret hi)))
theorem mobm_625 : xBm bm_625 := fun dl fs i1 i2 fin hi => (m_iconst (m_istore (m_iload (m_iconst (m_if2 (m_xgo hi) (m_aload (m_getr (m_iload (m_iconst (m_ast (m_iinc (m_xgo hi))))))))))))
theorem mobm_626 : xBm bm_626 := fun dl fs i1 i2 fin hi => (m_iload (m_iconst (m_if2 (m_xgo hi) (m_aload (m_getr (m_iload (m_iconst (m_ast (m_iinc (m_xgo hi))))))))))
theorem mobm_627 : xBm bm_627 := fun dl fs i1 i2 fin hi => (m_aload (m_iconst (m_puti (m_aload (m_iconst (m_puti (m_aload (m_iconst (m_puti (m_aload (m_iconst (m_puti (m_aload (m_iconst (m_puti (m_aload (m_iconst (m_puti (m_aload (m_iconst (m_puti (m_aload (m_xgo hi)))))))))))))))))))))))
theorem mobm_628 : xBm bm_628 := fun dl fs i1 i2 fin hi => (m_text (m_callt hi))
theorem mobm_629 : xBm bm_629 := fun dl fs i1 i2 fin hi => (m_istore (m_iconst (m_istore (m_iload (m_iload (m_if2 (m_xgo hi) (m_aload (m_getr (m_iload (m_text (m_iload (m_callt hi))))))))))))
theorem mobm_630 : xBm bm_630 := fun dl fs i1 i2 fin hi => (m_iload (m_iload (m_if2 (m_xgo hi) (m_aload (m_getr (m_iload (m_text (m_iload (m_callt hi)))))))))
theorem mobm_631 : xBm bm_631 := fun dl fs i1 i2 fin hi => (m_un (m_ast (m_iinc (m_xgo hi))))
theorem mobm_632 : xBm bm_632 := fun dl fs i1 i2 fin hi => (m_aload (m_iconst (m_iload (m_iconst (m_iconst (m_callv hi))))))
theorem mobm_633 : xBm bm_633 := fun dl fs i1 i2 fin hi => (m_istore (m_aload (m_aload (m_geti (m_puti (m_iconst (m_istore (m_iload (m_iload (m_if2 (m_xgo hi) m_no))))))))))
theorem mobm_634 : xBm bm_634 := fun dl fs i1 i2 fin hi => (m_aload (m_iload (m_iload (m_iload (m_bin (m_aload (m_geti (m_iload (m_callv hi)))))))))
theorem mobm_635 : xBm bm_635 := fun dl fs i1 i2 fin hi => (m_istore (m_iload (m_if1 (m_xgo hi) m_no)))
theorem mobm_636 : xBm bm_636 := fun dl fs i1 i2 fin hi => (m_iconst (m_istore (m_iload (m_aload (m_geti (m_if2 (m_xgo hi) (m_aload (m_iload (m_callv hi)))))))))
theorem mobm_637 : xBm bm_637 := fun dl fs i1 i2 fin hi => (m_iload (m_aload (m_geti (m_if2 (m_xgo hi) (m_aload (m_iload (m_callv hi)))))))
theorem mobm_638 : xBm bm_638 := fun dl fs i1 i2 fin hi => (m_iinc (m_xgo hi))
theorem mobm_639 : xBm bm_639 := fun dl fs i1 i2 fin hi => (m_aload (m_iconst (m_callv hi)))
theorem mobm_640 : xBm bm_640 := fun dl fs i1 i2 fin hi => (m_aload (m_callv hi))
theorem mobm_641 : xBm bm_641 := fun dl fs i1 i2 fin hi => (m_iload (m_if1 m_no (m_iconst (m_iret hi))))
theorem mobm_642 : xBm bm_642 := fun dl fs i1 i2 fin hi => (m_aload (m_geti (m_istore (m_aload (m_geti (m_istore (m_aload (m_geti (m_istore (m_aload (m_iload (m_iload (m_callv hi)))))))))))))
theorem mobm_643 : xBm bm_643 := fun dl fs i1 i2 fin hi => (m_istore (m_iload (m_if1 (m_xgo hi) m_no)))
theorem mobm_644 : xBm bm_644 := fun dl fs i1 i2 fin hi => (m_iload (m_if1 (m_xgo hi) (m_aload (m_callv hi))))
theorem mobm_645 : xBm bm_645 := fun dl fs i1 i2 fin hi => (m_aload (m_iload (m_puti (m_aload (m_iconst (m_puti (m_aload (m_iconst (m_puti (m_aload (m_iconst (m_puti (m_aload (m_iconst (m_puti (m_aload (m_aload (m_geti (m_iconst (m_bin (m_callv hi)))))))))))))))))))))
theorem mobm_646 : xBm bm_646 := fun dl fs i1 i2 fin hi => (m_aload (m_geti (m_if1 (m_xgo hi) m_no)))
theorem mobm_647 : xBm bm_647 := fun dl fs i1 i2 fin hi => (m_aload (m_iconst (m_puti (m_aload (m_iload (m_callv hi))))))
theorem mobm_648 : xBm bm_648 := fun dl fs i1 i2 fin hi => (m_aload (m_geti (m_if1 (m_xgo hi) m_no)))
theorem mobm_649 : xBm bm_649 := fun dl fs i1 i2 fin hi => (m_aload (m_iload (m_callv hi)))
theorem mobm_650 : xBm bm_650 := fun dl fs i1 i2 fin hi => (m_aload (m_geti (m_if1 (m_xgo hi) m_no)))
theorem mobm_651 : xBm bm_651 := fun dl fs i1 i2 fin hi => (m_aload (m_iload (m_callv hi)))
theorem mobm_652 : xBm bm_652 := fun dl fs i1 i2 fin hi => (m_aload (m_iload (m_callv hi)))
theorem mobm_653 : xBm bm_653 := fun dl fs i1 i2 fin hi => (m_aload (m_iload (m_iload (m_callv hi))))
theorem mobm_654 : xBm bm_654 := fun dl fs i1 i2 fin hi => (m_aload (m_geti (m_if1 (m_xgo hi) m_no)))
theorem mobm_655 : xBm bm_655 := fun dl fs i1 i2 fin hi => (m_iload (m_istore (m_iload (m_aload (m_geti (m_if2 (m_xgo hi) (m_aload (m_getr (m_iload (m_aload (m_getr (m_aload (m_getr (m_iload (m_ald (m_ald (m_ast (m_iinc (m_xgo hi)))))))))))))))))))
theorem mobm_656 : xBm bm_656 := fun dl fs i1 i2 fin hi => (m_iload (m_aload (m_geti (m_if2 (m_xgo hi) (m_aload (m_getr (m_iload (m_aload (m_getr (m_aload (m_getr (m_iload (m_ald (m_ald (m_ast (m_iinc (m_xgo hi)))))))))))))))))
theorem mobm_657 : xBm bm_657 := fun dl fs i1 i2 fin hi => (m_aload (m_iload (m_callv hi)))
theorem mobm_658 : xBm bm_658 := fun dl fs i1 i2 fin hi => (m_aload (m_iconst (m_puti (m_iload (m_istore (m_iload (m_aload (m_geti (m_if2 (m_xgo hi) (m_iload (m_if1 (m_xgo hi) m_no)))))))))))
theorem mobm_659 : xBm bm_659 := fun dl fs i1 i2 fin hi => (m_iconst (m_iret hi))
theorem mobm_660 : xBm bm_660 := fun dl fs i1 i2 fin hi => (m_aload (m_geti (m_istore (m_aload (m_aload (m_callv hi))))))
theorem mobm_661 : xBm bm_661 := fun dl fs i1 i2 fin hi => (m_iconst (m_if2 (m_xgo hi) m_no))
theorem mobm_662 : xBm bm_662 := fun dl fs i1 i2 fin hi => (m_iconst (m_aload (m_geti (m_iconst (m_callv hi)))))
theorem mobm_663 : xBm bm_663 := fun dl fs i1 i2 fin hi => (m_istore (m_iconst (m_istore (m_aload (m_callv hi)))))
theorem mobm_664 : xBm bm_664 := fun dl fs i1 i2 fin hi => (m_iconst (m_if2 (m_xgo hi) m_no))
theorem mobm_665 : xBm bm_665 := fun dl fs i1 i2 fin hi => (m_aload (m_iconst (m_callv hi)))
theorem mobm_666 : xBm bm_666 := fun dl fs i1 i2 fin hi => (m_aload (m_geti (m_if1 m_no (m_aload (m_iload (m_iload (m_aload (m_callv hi))))))))
theorem mobm_667 : xBm bm_667 := fun dl fs i1 i2 fin hi => (m_callv hi)
theorem mobm_668 : xBm bm_668 := fun dl fs i1 i2 fin hi => (m_xgo hi)
theorem mobm_669 : xBm bm_669 := fun dl fs i1 i2 fin hi => (m_istore (m_aload (m_iconst (m_callv hi))))
theorem mobm_670 : xBm bm_670 := fun dl fs i1 i2 fin hi => (m_if1 (m_xgo hi) m_no)
theorem mobm_671 : xBm bm_671 := fun dl fs i1 i2 fin hi => (m_aload (m_getr (m_iload (m_aload (m_geti (m_iload (m_bin (m_ast (m_aload (m_getr (m_iload (m_aload (m_geti (m_ast (m_iload (m_iret hi))))))))))))))))
theorem mobm_672 : xBm bm_672 := fun dl fs i1 i2 fin hi => (m_aload (m_callv hi))
theorem mobm_673 : xBm bm_673 := fun dl fs i1 i2 fin hi => (m_istore (m_aload (m_geti (m_if1 (m_xgo hi) (m_aload (m_aload (m_geti (m_callv hi))))))))
theorem mobm_674 : xBm bm_674 := fun dl fs i1 i2 fin hi => (m_if1 (m_xgo hi) (m_iload (m_iret hi)))
theorem mobm_675 : xBm bm_675 := fun dl fs i1 i2 fin hi => (m_aload (m_geti (m_istore (m_aload (m_iconst (m_iload (m_iconst (m_callv hi))))))))
theorem mobm_676 : xBm bm_676 := fun dl fs i1 i2 fin hi => (m_istore (m_aload (m_iload (m_iconst (m_iload (m_callv hi))))))
theorem mobm_677 : xBm bm_677 := fun dl fs i1 i2 fin hi => (m_istore (m_iconst (m_istore (m_aload (m_geti (m_if1 (m_xgo hi) (m_aload (m_aload (m_geti (m_callv hi))))))))))
theorem mobm_678 : xBm bm_678 := fun dl fs i1 i2 fin hi => (m_aload (m_geti (m_if1 (m_xgo hi) (m_aload (m_aload (m_geti (m_callv hi)))))))
theorem mobm_679 : xBm bm_679 := fun dl fs i1 i2 fin hi => (m_if1 (m_xgo hi) (m_iload (m_iconst (m_if2 (m_xgo hi) m_no))))
theorem mobm_680 : xBm bm_680 := fun dl fs i1 i2 fin hi => (m_aload (m_callv hi))
theorem mobm_681 : xBm bm_681 := fun dl fs i1 i2 fin hi => (m_istore (m_aload (m_geti (m_if1 (m_xgo hi) m_no))))
theorem mobm_682 : xBm bm_682 := fun dl fs i1 i2 fin hi => (m_aload (m_iload (m_iload (m_iload (m_callv hi)))))
theorem mobm_683 : xBm bm_683 := fun dl fs i1 i2 fin hi => (m_istore (m_iinc (m_iload (m_if1 (m_xgo hi) m_no))))
theorem mobm_684 : xBm bm_684 := fun dl fs i1 i2 fin hi => (m_aload (m_callv hi))
theorem mobm_685 : xBm bm_685 := fun dl fs i1 i2 fin hi => (m_istore (m_aload (m_iload (m_iload (m_iload (m_if1 (m_xgo hi) m_no))))))
theorem mobm_686 : xBm bm_686 := fun dl fs i1 i2 fin hi => (m_aload (m_callv hi))
theorem mobm_687 : xBm bm_687 := fun dl fs i1 i2 fin hi => (m_callv hi)
theorem mobm_688 : xBm bm_688 := fun dl fs i1 i2 fin hi => (m_istore (m_iload (m_if1 (m_xgo hi) m_no)))
theorem mobm_689 : xBm bm_689 := fun dl fs i1 i2 fin hi => (m_xgo hi)
theorem mobm_690 : xBm bm_690 := fun dl fs i1 i2 fin hi => (m_aload (m_getr (m_iload (m_iload (m_ast (m_iload (m_iret hi)))))))
theorem mobm_691 : xBm bm_691 := fun dl fs i1 i2 fin hi => (m_aload (m_geti (m_istore (m_aload (m_callv hi)))))
theorem mobm_692 : xBm bm_692 := fun dl fs i1 i2 fin hi => (m_iconst (m_if2 (m_xgo hi) (m_iconst (m_xgo hi))))
theorem mobm_693 : xBm bm_693 := fun dl fs i1 i2 fin hi => (m_iconst (m_istore (m_iconst (m_istore (m_iload (m_if1 (m_xgo hi) (m_aload (m_getr (m_aload (m_geti (m_iconst (m_bin (m_ald (m_iconst (m_if2 (m_xgo hi) (m_xgo hi))))))))))))))))
theorem mobm_694 : xBm bm_694 := fun dl fs i1 i2 fin hi => (m_istore (m_iconst (m_istore (m_iload (m_if1 (m_xgo hi) (m_aload (m_getr (m_aload (m_geti (m_iconst (m_bin (m_ald (m_iconst (m_if2 (m_xgo hi) (m_xgo hi)))))))))))))))
theorem mobm_695 : xBm bm_695 := fun dl fs i1 i2 fin hi => (m_aload (m_callv hi))
theorem mobm_696 : xBm bm_696 := fun dl fs i1 i2 fin hi => (m_istore (m_aload (m_geti (m_if1 (m_xgo hi) (m_aload (m_callv hi))))))
theorem mobm_697 : xBm bm_697 := fun dl fs i1 i2 fin hi => (m_if1 (m_xgo hi) m_no)
theorem mobm_698 : xBm bm_698 := fun dl fs i1 i2 fin hi => (m_aload (m_dup (m_geti (m_iconst (m_bin (m_puti (m_aload (m_callv hi))))))))
theorem mobm_699 : xBm bm_699 := fun dl fs i1 i2 fin hi => (m_if1 (m_xgo hi) (m_aload (m_iconst (m_iload (m_aload (m_getr (m_iload (m_ald (m_callv hi)))))))))
theorem mobm_700 : xBm bm_700 := fun dl fs i1 i2 fin hi => (m_istore (m_aload (m_iconst (m_iload (m_aload (m_getr (m_iload (m_ald (m_callv hi)))))))))
theorem mobm_701 : xBm bm_701 := fun dl fs i1 i2 fin hi => (m_aload (m_iconst (m_iload (m_aload (m_getr (m_iload (m_ald (m_callv hi))))))))
theorem mobm_702 : xBm bm_702 := fun dl fs i1 i2 fin hi => (m_istore (m_aload (m_getr (m_iload (m_iload (m_ast (m_iconst (m_istore (m_iload (m_if1 (m_xgo hi) (m_aload (m_geti (m_if1 (m_xgo hi) (m_aload (m_getr (m_iload (m_aload (m_geti (m_ast (m_aload (m_getr (m_iload (m_xgo hi)))))))))))))))))))))))
theorem mobm_703 : xBm bm_703 := fun dl fs i1 i2 fin hi => (m_ast (m_aload (m_iload (m_iload (m_iload (m_callv hi))))))
theorem mobm_704 : xBm bm_704 := fun dl fs i1 i2 fin hi => (m_istore (m_aload (m_iload (m_iload (m_aload (m_callv hi))))))
theorem mobm_705 : xBm bm_705 := fun dl fs i1 i2 fin hi => (m_callv hi)
theorem mobm_706 : xBm bm_706 := fun dl fs i1 i2 fin hi => (m_istore (m_xgo hi))
theorem mobm_707 : xBm bm_707 := fun dl fs i1 i2 fin hi => (m_aload (m_geti (m_if1 (m_xgo hi) (m_aload (m_callv hi)))))
theorem mobm_708 : xBm bm_708 := fun dl fs i1 i2 fin hi => (m_if1 (m_xgo hi) (m_aload (m_iload (m_iload (m_aload (m_callv hi))))))
theorem mobm_709 : xBm bm_709 := fun dl fs i1 i2 fin hi => (m_callv hi)
theorem mobm_710 : xBm bm_710 := fun dl fs i1 i2 fin hi => (m_istore (m_xgo hi))
theorem mobm_711 : xBm bm_711 := fun dl fs i1 i2 fin hi => (m_aload (m_geti (m_if1 (m_xgo hi) (m_aload (m_iload (m_iload (m_aload (m_callv hi))))))))
theorem mobm_712 : xBm bm_712 := fun dl fs i1 i2 fin hi => (m_callv hi)
theorem mobm_713 : xBm bm_713 := fun dl fs i1 i2 fin hi => (m_istore (m_iload (m_iret hi)))
theorem mobm_714 : xBm bm_714 := fun dl fs i1 i2 fin hi => (m_iconst (m_istore (m_iload (m_iload (m_if2 (m_xgo hi) (m_aload (m_getr (m_iload (m_iload (m_bin (m_ald (m_aload (m_getr (m_iload (m_iload (m_bin (m_ald (m_if2 (m_xgo hi) m_no))))))))))))))))))
theorem mobm_715 : xBm bm_715 := fun dl fs i1 i2 fin hi => (m_iload (m_iload (m_if2 (m_xgo hi) (m_aload (m_getr (m_iload (m_iload (m_bin (m_ald (m_aload (m_getr (m_iload (m_iload (m_bin (m_ald (m_if2 (m_xgo hi) m_no))))))))))))))))
theorem mobm_716 : xBm bm_716 := fun dl fs i1 i2 fin hi => (m_iinc (m_xgo hi))
theorem mobm_717 : xBm bm_717 := fun dl fs i1 i2 fin hi => (m_iconst (m_zret hi))
theorem mobm_718 : xBm bm_718 := fun dl fs i1 i2 fin hi => (m_iload (m_istore (m_iconst (m_istore (m_iload (m_iload (m_if2 (m_xgo hi) (m_aload (m_getr (m_iload (m_ald (m_iconst (m_if2 (m_xgo hi) (m_aload (m_getr (m_iload (m_ald (m_iconst (m_if2 (m_xgo hi) (m_aload (m_iload (m_iload (m_xgo hi)))))))))))))))))))))))
theorem mobm_719 : xBm bm_719 := fun dl fs i1 i2 fin hi => (m_iload (m_iload (m_if2 (m_xgo hi) (m_aload (m_getr (m_iload (m_ald (m_iconst (m_if2 (m_xgo hi) (m_aload (m_getr (m_iload (m_ald (m_iconst (m_if2 (m_xgo hi) (m_aload (m_iload (m_iload (m_callv hi)))))))))))))))))))
theorem mobm_720 : xBm bm_720 := fun dl fs i1 i2 fin hi => (m_if1 (m_xgo hi) (m_aload (m_getr (m_iload (m_ald (m_iconst (m_if2 (m_xgo hi) (m_aload (m_getr (m_iload (m_ald (m_iconst (m_if2 (m_xgo hi) m_no)))))))))))))
theorem mobm_721 : xBm bm_721 := fun dl fs i1 i2 fin hi => (m_aload (m_getr (m_iload (m_ald (m_iconst (m_if2 (m_xgo hi) (m_aload (m_getr (m_iload (m_ald (m_iconst (m_if2 (m_xgo hi) m_no))))))))))))
theorem mobm_722 : xBm bm_722 := fun dl fs i1 i2 fin hi => (m_iconst (m_istore (m_iinc (m_iload (m_if1 (m_xgo hi) m_no)))))
theorem mobm_723 : xBm bm_723 := fun dl fs i1 i2 fin hi => (m_xgo hi)
theorem mobm_724 : xBm bm_724 := fun dl fs i1 i2 fin hi => (m_iload (m_iload (m_if2 (m_xgo hi) (m_aload (m_iconst (m_iload (m_iconst (m_callv hi))))))))
theorem mobm_725 : xBm bm_725 := fun dl fs i1 i2 fin hi => (m_iconst (m_iret hi))
theorem mobm_726 : xBm bm_726 := fun dl fs i1 i2 fin hi => (m_iload (m_if1 (m_xgo hi) (m_aload (m_getr (m_iload (m_iconst (m_bin (m_ald (m_iconst (m_if2 (m_xgo hi) (m_aload (m_iconst (m_iload (m_iconst (m_callv hi)))))))))))))))
theorem mobm_727 : xBm bm_727 := fun dl fs i1 i2 fin hi => (m_iconst (m_istore (m_aload (m_iload (m_iload (m_callv hi))))))
theorem mobm_728 : xBm bm_728 := fun dl fs i1 i2 fin hi => (m_istore (m_iload (m_if1 (m_xgo hi) m_no)))
theorem mobm_729 : xBm bm_729 := fun dl fs i1 i2 fin hi => (m_iload (m_istore (m_xgo hi)))
theorem mobm_730 : xBm bm_730 := fun dl fs i1 i2 fin hi => (m_aload (m_getr (m_iload (m_ald (m_iconst (m_if2 (m_xgo hi) (m_iconst (m_iret hi))))))))
theorem mobm_731 : xBm bm_731 := fun dl fs i1 i2 fin hi => (m_aload (m_getr (m_aload (m_getr (m_iload (m_ald (m_ald (m_if1 (m_xgo hi) m_no))))))))
theorem mobm_732 : xBm bm_732 := fun dl fs i1 i2 fin hi => (m_aload (m_getr (m_aload (m_getr (m_iload (m_ald (m_ald (m_iret hi))))))))
theorem mobm_733 : xBm bm_733 := fun dl fs i1 i2 fin hi => (m_iload (m_if1 (m_xgo hi) (m_aload (m_dup (m_geti (m_iconst (m_bin (m_puti (m_xgo hi)))))))))
theorem mobm_734 : xBm bm_734 := fun dl fs i1 i2 fin hi => (m_iload (m_if1 (m_xgo hi) (m_aload (m_aload (m_geti (m_callv hi))))))
theorem mobm_735 : xBm bm_735 := fun dl fs i1 i2 fin hi => (m_if1 (m_xgo hi) m_no)
theorem mobm_736 : xBm bm_736 := fun dl fs i1 i2 fin hi => (m_aload (m_iconst (m_aload (m_geti (m_aload (m_getr (m_aload (m_geti (m_ald (m_callv hi))))))))))
theorem mobm_737 : xBm bm_737 := fun dl fs i1 i2 fin hi => (m_istore (m_aload (m_geti (m_if1 (m_xgo hi) (m_aload (m_dup (m_geti (m_iconst (m_bin (m_puti (m_iload (m_if1 (m_xgo hi) (m_aload (m_iconst (m_callv hi)))))))))))))))
theorem mobm_738 : xBm bm_738 := fun dl fs i1 i2 fin hi => (m_aload (m_iconst (m_callv hi)))
theorem mobm_739 : xBm bm_739 := fun dl fs i1 i2 fin hi => (m_aload (m_geti (m_istore (m_aload (m_getr (m_iload (m_aload (m_geti (m_if1 m_no (m_aload (m_callv hi)))))))))))
theorem mobm_740 : xBm bm_740 := fun dl fs i1 i2 fin hi => (m_xgo hi)
theorem mobm_741 : xBm bm_741 := fun dl fs i1 i2 fin hi => (m_ast (m_aload (m_getr (m_iload (m_aload (m_geti (m_iload (m_bin (m_ast (m_iload (m_iret hi)))))))))))
theorem mobm_742 : xBm bm_742 := fun dl fs i1 i2 fin hi => (m_iload (m_istore (m_iload (m_iload (m_if2 (m_xgo hi) (m_aload (m_getr (m_iload (m_ald (m_calls hi))))))))))
theorem mobm_743 : xBm bm_743 := fun dl fs i1 i2 fin hi => (m_iload (m_iload (m_if2 (m_xgo hi) (m_aload (m_getr (m_iload (m_ald (m_calls hi))))))))
theorem mobm_744 : xBm bm_744 := fun dl fs i1 i2 fin hi => (m_if1 (m_xgo hi) (m_iinc (m_xgo hi)))
theorem mobm_745 : xBm bm_745 := fun dl fs i1 i2 fin hi => (m_iload (m_iret hi))
theorem mobm_746 : xBm bm_746 := fun dl fs i1 i2 fin hi => (m_iconst (m_istore (m_iload (m_aload (m_geti (m_if2 (m_xgo hi) (m_aload (m_getr (m_iload (m_iload (m_iconst (m_if2 (m_xgo hi) (m_aload (m_getr (m_iload (m_ald (m_if1 (m_xgo hi) (m_aload (m_aload (m_getr (m_iload (m_ald (m_xgo hi)))))))))))))))))))))))
theorem mobm_747 : xBm bm_747 := fun dl fs i1 i2 fin hi => (m_iload (m_aload (m_geti (m_if2 (m_xgo hi) (m_aload (m_getr (m_iload (m_iload (m_iconst (m_if2 (m_xgo hi) (m_aload (m_getr (m_iload (m_ald (m_if1 (m_xgo hi) (m_aload (m_aload (m_getr (m_iload (m_ald (m_iconst (m_callv hi))))))))))))))))))))))
theorem mobm_748 : xBm bm_748 := fun dl fs i1 i2 fin hi => (m_if1 (m_xgo hi) (m_iconst (m_xgo hi)))
theorem mobm_749 : xBm bm_749 := fun dl fs i1 i2 fin hi => (m_iconst (m_xgo hi))
theorem mobm_750 : xBm bm_750 := fun dl fs i1 i2 fin hi => (m_iconst (m_ast (m_iinc (m_xgo hi))))
theorem mobm_751 : xBm bm_751 := fun dl fs i1 i2 fin hi => (m_ast (m_iinc (m_xgo hi)))
theorem mobm_752 : xBm bm_752 := fun dl fs i1 i2 fin hi => (m_iconst (m_istore (m_iload (m_if1 (m_xgo hi) (m_iconst (m_istore (m_iconst (m_istore (m_xgo hi)))))))))
theorem mobm_753 : xBm bm_753 := fun dl fs i1 i2 fin hi => (m_iload (m_if1 (m_xgo hi) (m_iconst (m_istore (m_iconst (m_istore (m_iload (m_aload (m_geti (m_if2 (m_xgo hi) (m_aload (m_getr (m_iload (m_ald (m_istore (m_aload (m_getr (m_iload (m_ald (m_if1 (m_xgo hi) (m_aload (m_iload (m_xgo hi)))))))))))))))))))))))
theorem mobm_754 : xBm bm_754 := fun dl fs i1 i2 fin hi => (m_iload (m_aload (m_geti (m_if2 (m_xgo hi) (m_aload (m_getr (m_iload (m_ald (m_istore (m_aload (m_getr (m_iload (m_ald (m_if1 (m_xgo hi) (m_aload (m_iload (m_callv hi)))))))))))))))))
theorem mobm_755 : xBm bm_755 := fun dl fs i1 i2 fin hi => (m_if1 m_no (m_xgo hi))
theorem mobm_756 : xBm bm_756 := fun dl fs i1 i2 fin hi => (m_iinc (m_xgo hi))
theorem mobm_757 : xBm bm_757 := fun dl fs i1 i2 fin hi => (m_xgo hi)
theorem mobm_758 : xBm bm_758 := fun dl fs i1 i2 fin hi => (m_ret hi)
theorem mobm_759 : xBm bm_759 := fun dl fs i1 i2 fin hi => (m_aload (m_getr (m_aload (m_geti (m_iload (m_ast (m_aload (m_getr (m_aload (m_geti (m_iload (m_ast (m_aload (m_dup (m_geti (m_iconst (m_bin (m_puti (m_aload (m_geti (m_iconst (m_bin (m_xgo hi)))))))))))))))))))))))
theorem mobm_760 : xBm bm_760 := fun dl fs i1 i2 fin hi => (m_aload (m_getr (m_iload (m_ald (m_iconst (m_if2 (m_xgo hi) (m_iconst (m_iret hi))))))))
theorem mobm_761 : xBm bm_761 := fun dl fs i1 i2 fin hi => (m_aload (m_getr (m_aload (m_getr (m_iload (m_ald (m_ald (m_if1 (m_xgo hi) m_no))))))))
theorem mobm_762 : xBm bm_762 := fun dl fs i1 i2 fin hi => (m_aload (m_getr (m_aload (m_getr (m_iload (m_ald (m_ald (m_iret hi))))))))
theorem mobm_763 : xBm bm_763 := fun dl fs i1 i2 fin hi => (m_iload (m_istore (m_iload (m_aload (m_geti (m_if2 (m_xgo hi) (m_aload (m_getr (m_iload (m_ald (m_iconst (m_if2 (m_xgo hi) (m_aload (m_iload (m_callv hi)))))))))))))))
theorem mobm_764 : xBm bm_764 := fun dl fs i1 i2 fin hi => (m_iload (m_aload (m_geti (m_if2 (m_xgo hi) (m_aload (m_getr (m_iload (m_ald (m_iconst (m_if2 (m_xgo hi) (m_aload (m_iload (m_callv hi)))))))))))))
theorem mobm_765 : xBm bm_765 := fun dl fs i1 i2 fin hi => (m_xgo hi)
theorem mobm_766 : xBm bm_766 := fun dl fs i1 i2 fin hi => (m_iconst (m_istore (m_iconst (m_istore (m_iload (m_iload (m_if2 (m_xgo hi) (m_iload (m_iconst (m_bin (m_istore (m_iload (m_if1 (m_xgo hi) (m_aload (m_aload (m_getr (m_iload (m_ald (m_callv hi)))))))))))))))))))
theorem mobm_767 : xBm bm_767 := fun dl fs i1 i2 fin hi => (m_istore (m_iconst (m_istore (m_iload (m_iload (m_if2 (m_xgo hi) (m_iload (m_iconst (m_bin (m_istore (m_iload (m_if1 (m_xgo hi) (m_aload (m_aload (m_getr (m_iload (m_ald (m_callv hi))))))))))))))))))
theorem mobm_768 : xBm bm_768 := fun dl fs i1 i2 fin hi => (m_iload (m_iload (m_if2 (m_xgo hi) (m_iload (m_iconst (m_bin (m_istore (m_iload (m_if1 (m_xgo hi) (m_aload (m_aload (m_getr (m_iload (m_ald (m_callv hi)))))))))))))))
theorem mobm_769 : xBm bm_769 := fun dl fs i1 i2 fin hi => (m_aload (m_aload (m_getr (m_iload (m_ald (m_callv hi))))))
theorem mobm_770 : xBm bm_770 := fun dl fs i1 i2 fin hi => (m_if2 (m_xgo hi) m_no)
theorem mobm_771 : xBm bm_771 := fun dl fs i1 i2 fin hi => (m_iload (m_if1 m_no (m_aload (m_aload (m_getr (m_iload (m_ald (m_callv hi))))))))
theorem mobm_772 : xBm bm_772 := fun dl fs i1 i2 fin hi => (m_aload (m_aload (m_getr (m_iload (m_ald (m_callv hi))))))
theorem mobm_773 : xBm bm_773 := fun dl fs i1 i2 fin hi => (m_if2 m_no (m_iconst (m_xgo hi)))
theorem mobm_774 : xBm bm_774 := fun dl fs i1 i2 fin hi => (m_istore (m_iload (m_if1 (m_xgo hi) (m_aload (m_aload (m_getr (m_iload (m_ald (m_callv hi)))))))))
theorem mobm_775 : xBm bm_775 := fun dl fs i1 i2 fin hi => (m_if1 m_no (m_aload (m_aload (m_getr (m_iload (m_ald (m_callv hi)))))))
theorem mobm_776 : xBm bm_776 := fun dl fs i1 i2 fin hi => (m_aload (m_aload (m_getr (m_iload (m_ald (m_callv hi))))))
theorem mobm_777 : xBm bm_777 := fun dl fs i1 i2 fin hi => (m_if2 (m_xgo hi) m_no)
theorem mobm_778 : xBm bm_778 := fun dl fs i1 i2 fin hi => (m_iinc (m_xgo hi))
theorem mobm_779 : xBm bm_779 := fun dl fs i1 i2 fin hi => (m_iinc (m_xgo hi))
theorem mobm_780 : xBm bm_780 := fun dl fs i1 i2 fin hi => (m_ret hi)
theorem mobm_781 : xBm bm_781 := fun dl fs i1 i2 fin hi => (m_iload (m_istore (m_iconst (m_istore (m_iload (m_iload (m_if2 (m_xgo hi) (m_iload (m_iconst (m_bin (m_aload (m_getr (m_iload (m_iload (m_bin (m_ald (m_bin (m_iconst (m_bin (m_istore (m_iinc (m_xgo hi))))))))))))))))))))))
theorem mobm_782 : xBm bm_782 := fun dl fs i1 i2 fin hi => (m_iload (m_iload (m_if2 (m_xgo hi) (m_iload (m_iconst (m_bin (m_aload (m_getr (m_iload (m_iload (m_bin (m_ald (m_bin (m_iconst (m_bin (m_istore (m_iinc (m_xgo hi))))))))))))))))))
theorem mobm_783 : xBm bm_783 := fun dl fs i1 i2 fin hi => (m_aload (m_getr (m_iload (m_ald (m_istore (m_iload (m_if1 (m_xgo hi) (m_aload (m_getr (m_iload (m_ald (m_iload (m_if2 m_no (m_aload (m_aload (m_getr (m_iload (m_ald (m_iload (m_iload (m_callv hi)))))))))))))))))))))
theorem mobm_784 : xBm bm_784 := fun dl fs i1 i2 fin hi => (m_if1 m_no (m_iload (m_iret hi)))
theorem mobm_785 : xBm bm_785 := fun dl fs i1 i2 fin hi => (m_aload (m_getr (m_aload (m_geti (m_iload (m_ast (m_aload (m_getr (m_aload (m_geti (m_iload (m_ast (m_aload (m_getr (m_aload (m_geti (m_aload (m_getr (m_iload (m_ald (m_ast (m_aload (m_xgo hi)))))))))))))))))))))))
theorem mobm_786 : xBm bm_786 := fun dl fs i1 i2 fin hi => (m_aload (m_geti (m_istore (m_aload (m_callv hi)))))
theorem mobm_787 : xBm bm_787 := fun dl fs i1 i2 fin hi => (m_istore (m_aload (m_callv hi)))
theorem mobm_788 : xBm bm_788 := fun dl fs i1 i2 fin hi => (m_aload (m_geti (m_if1 (m_xgo hi) m_no)))
theorem mobm_789 : xBm bm_789 := fun dl fs i1 i2 fin hi => (m_aload (m_iload (m_iconst (m_if2 m_no (m_iconst (m_xgo hi))))))
theorem mobm_790 : xBm bm_790 := fun dl fs i1 i2 fin hi => (m_iload (m_iconst (m_callv hi)))
theorem mobm_791 : xBm bm_791 := fun dl fs i1 i2 fin hi => (m_istore (m_iconst (m_istore (m_iload (m_iconst (m_if2 m_no (m_iconst (m_istore (m_aload (m_callv hi))))))))))
theorem mobm_792 : xBm bm_792 := fun dl fs i1 i2 fin hi => (m_iconst (m_if2 (m_xgo hi) m_no))
theorem mobm_793 : xBm bm_793 := fun dl fs i1 i2 fin hi => (m_aload (m_geti (m_if1 (m_xgo hi) (m_aload (m_callv hi)))))
theorem mobm_794 : xBm bm_794 := fun dl fs i1 i2 fin hi => (m_iconst (m_if2 (m_xgo hi) (m_aload (m_callv hi))))
theorem mobm_795 : xBm bm_795 := fun dl fs i1 i2 fin hi => (m_iconst (m_if2 (m_xgo hi) (m_aload (m_iload (m_iload (m_aload (m_aload (m_callv hi))))))))
theorem mobm_796 : xBm bm_796 := fun dl fs i1 i2 fin hi => (m_aload (m_iload (m_iload (m_aload (m_aload (m_callv hi))))))
theorem mobm_797 : xBm bm_797 := fun dl fs i1 i2 fin hi => (m_iconst (m_if2 m_no (m_iconst (m_xgo hi))))
theorem mobm_798 : xBm bm_798 := fun dl fs i1 i2 fin hi => (m_aload (m_geti (m_aload (m_getr (m_aload (m_geti (m_ald (m_callv hi))))))))
theorem mobm_799 : xBm bm_799 := fun dl fs i1 i2 fin hi => (m_callv hi)
theorem mobm_800 : xBm bm_800 := fun dl fs i1 i2 fin hi => (m_istore (m_iinc (m_aload (m_dup (m_geti (m_iconst (m_bin (m_puti (m_xgo hi)))))))))
theorem mobm_801 : xBm bm_801 := fun dl fs i1 i2 fin hi => (m_aload (m_iconst (m_callv hi)))
theorem mobm_802 : xBm bm_802 := fun dl fs i1 i2 fin hi => (m_aload (m_geti (m_istore (m_aload (m_geti (m_if1 (m_xgo hi) (m_aload (m_iload (m_iload (m_aload (m_callv hi)))))))))))
theorem mobm_803 : xBm bm_803 := fun dl fs i1 i2 fin hi => (m_callv hi)
theorem mobm_804 : xBm bm_804 := fun dl fs i1 i2 fin hi => (m_istore (m_aload (m_getr (m_iload (m_iload (m_ast (m_aload (m_getr (m_iload (m_aload (m_geti (m_iload (m_bin (m_ast (m_xgo hi)))))))))))))))
theorem mobm_805 : xBm bm_805 := fun dl fs i1 i2 fin hi => (m_aload (m_dup (m_geti (m_iconst (m_bin (m_puti (m_iload (m_iret hi))))))))
theorem mobm_806 : xBm bm_806 := fun dl fs i1 i2 fin hi => (m_aload (m_geti (m_if1 (m_xgo hi) (m_aload (m_callv hi)))))
theorem mobm_807 : xBm bm_807 := fun dl fs i1 i2 fin hi => (m_iload (m_if2 (m_xgo hi) (m_iconst (m_zret hi))))
theorem mobm_808 : xBm bm_808 := fun dl fs i1 i2 fin hi => (m_aload (m_dup (m_geti (m_iconst (m_bin (m_puti (m_iconst (m_zret hi))))))))
theorem mobm_809 : xBm bm_809 := fun dl fs i1 i2 fin hi => (m_aload (m_getr (m_aload (m_geti (m_iload (m_un (m_ast (m_aload (m_getr (m_aload (m_geti (m_iload (m_ast (m_aload (m_getr (m_aload (m_geti (m_iload (m_ast (m_aload (m_dup (m_geti (m_xgo hi)))))))))))))))))))))))
theorem mobm_810 : xBm bm_810 := fun dl fs i1 i2 fin hi => (m_aload (m_geti (m_istore (m_aload (m_dup (m_geti (m_iconst (m_bin (m_puti (m_aload (m_getr (m_iload (m_iload (m_un (m_ast (m_aload (m_getr (m_iload (m_iload (m_ast (m_aload (m_getr (m_xgo hi)))))))))))))))))))))))
theorem mobm_811 : xBm bm_811 := fun dl fs i1 i2 fin hi => (m_aload (m_getr (m_iload (m_ald (m_iload (m_if2 (m_xgo hi) (m_iconst (m_xgo hi))))))))
theorem mobm_812 : xBm bm_812 := fun dl fs i1 i2 fin hi => (m_iconst (m_istore (m_aload (m_getr (m_iload (m_ald (m_istore (m_iload (m_if1 (m_xgo hi) (m_iload (m_aload (m_iload (m_iload (m_callv hi))))))))))))))
theorem mobm_813 : xBm bm_813 := fun dl fs i1 i2 fin hi => (m_istore (m_aload (m_getr (m_iload (m_ald (m_istore (m_iload (m_if1 (m_xgo hi) (m_iload (m_aload (m_iload (m_iload (m_callv hi)))))))))))))
theorem mobm_814 : xBm bm_814 := fun dl fs i1 i2 fin hi => (m_iload (m_if1 (m_xgo hi) (m_iload (m_aload (m_iload (m_iload (m_callv hi)))))))
theorem mobm_815 : xBm bm_815 := fun dl fs i1 i2 fin hi => (m_bin (m_istore (m_aload (m_getr (m_iload (m_ald (m_istore (m_xgo hi))))))))
theorem mobm_816 : xBm bm_816 := fun dl fs i1 i2 fin hi => (m_iload (m_iret hi))
theorem mobm_817 : xBm bm_817 := fun dl fs i1 i2 fin hi => (m_aload (m_geti (m_istore (m_aload (m_callv hi)))))
theorem mobm_818 : xBm bm_818 := fun dl fs i1 i2 fin hi => (m_istore (m_aload (m_geti (m_if1 (m_xgo hi) (m_aload (m_callv hi))))))
theorem mobm_819 : xBm bm_819 := fun dl fs i1 i2 fin hi => (m_iconst (m_if2 (m_xgo hi) (m_iload (m_iret hi))))
theorem mobm_820 : xBm bm_820 := fun dl fs i1 i2 fin hi => (m_aload (m_iconst (m_iload (m_iconst (m_callv hi)))))
theorem mobm_821 : xBm bm_821 := fun dl fs i1 i2 fin hi => (m_istore (m_iload (m_istore (m_aload (m_getr (m_iload (m_iload (m_ast (m_xgo hi)))))))))
theorem mobm_822 : xBm bm_822 := fun dl fs i1 i2 fin hi => (m_aload (m_iconst (m_callv hi)))
theorem mobm_823 : xBm bm_823 := fun dl fs i1 i2 fin hi => (m_if1 (m_xgo hi) (m_aload (m_callv hi)))
theorem mobm_824 : xBm bm_824 := fun dl fs i1 i2 fin hi => (m_istore (m_aload (m_geti (m_if1 (m_xgo hi) m_no))))
theorem mobm_825 : xBm bm_825 := fun dl fs i1 i2 fin hi => (m_iload (m_istore (m_aload (m_callv hi))))
theorem mobm_826 : xBm bm_826 := fun dl fs i1 i2 fin hi => (m_iconst (m_if2 (m_xgo hi) (m_aload (m_iconst (m_aload (m_geti (m_iconst (m_callv hi))))))))
theorem mobm_827 : xBm bm_827 := fun dl fs i1 i2 fin hi => (m_istore (m_aload (m_getr (m_iload (m_iload (m_ast (m_aload (m_getr (m_aload (m_getr (m_iload (m_ald (m_iload (m_ast (m_iload (m_istore (m_xgo hi)))))))))))))))))
theorem mobm_828 : xBm bm_828 := fun dl fs i1 i2 fin hi => (m_aload (m_getr (m_aload (m_getr (m_iload (m_ald (m_iload (m_ast (m_iload (m_istore (m_xgo hi)))))))))))
theorem mobm_829 : xBm bm_829 := fun dl fs i1 i2 fin hi => (m_iload (m_iret hi))
theorem mobm_830 : xBm bm_830 := fun dl fs i1 i2 fin hi => (m_aload (m_geti (m_istore (m_iload (m_istore (m_iload (m_iload (m_if2 (m_xgo hi) (m_aload (m_getr (m_iload (m_ald (m_iconst (m_if2 (m_xgo hi) (m_xgo hi)))))))))))))))
theorem mobm_831 : xBm bm_831 := fun dl fs i1 i2 fin hi => (m_iload (m_iload (m_if2 (m_xgo hi) (m_aload (m_getr (m_iload (m_ald (m_iconst (m_if2 (m_xgo hi) (m_xgo hi))))))))))
theorem mobm_832 : xBm bm_832 := fun dl fs i1 i2 fin hi => (m_aload (m_getr (m_iload (m_iconst (m_ast (m_iload (m_istore (m_aload (m_getr (m_iload (m_ald (m_istore (m_iload (m_if1 (m_xgo hi) m_no))))))))))))))
theorem mobm_833 : xBm bm_833 := fun dl fs i1 i2 fin hi => (m_aload (m_getr (m_iload (m_iconst (m_ast (m_iinc (m_xgo hi)))))))
theorem mobm_834 : xBm bm_834 := fun dl fs i1 i2 fin hi => (m_iinc (m_xgo hi))
theorem mobm_835 : xBm bm_835 := fun dl fs i1 i2 fin hi => (m_ret hi)
theorem mobm_836 : xBm bm_836 := fun dl fs i1 i2 fin hi => (m_iload (m_if1 (m_xgo hi) (m_aload (m_getr (m_iload (m_iload (m_ast (m_xgo hi))))))))
theorem mobm_837 : xBm bm_837 := fun dl fs i1 i2 fin hi => (m_aload (m_getr (m_iload (m_iload (m_ast (m_iload (m_iret hi)))))))
theorem mobm_838 : xBm bm_838 := fun dl fs i1 i2 fin hi => (m_iload (m_iret hi))
theorem mobm_839 : xBm bm_839 := fun dl fs i1 i2 fin hi => (m_iconst (m_istore (m_iconst (m_istore (m_iload (m_text (m_callt hi)))))))
theorem mobm_840 : xBm bm_840 := fun dl fs i1 i2 fin hi => (m_iload (m_text (m_callt hi)))
theorem mobm_841 : xBm bm_841 := fun dl fs i1 i2 fin hi => (m_if2 (m_xgo hi) (m_text (m_iconst (m_iload (m_callt hi)))))
theorem mobm_842 : xBm bm_842 := fun dl fs i1 i2 fin hi => (m_istore (m_iload (m_iload (m_bin (m_iload (m_iload (m_bin (m_if2 (m_xgo hi) (m_iconst (m_xgo hi))))))))))
theorem mobm_843 : xBm bm_843 := fun dl fs i1 i2 fin hi => (m_iconst (m_istore (m_iconst (m_istore (m_iload (m_iload (m_iload (m_bin (m_if2 (m_xgo hi) (m_iload (m_if1 (m_xgo hi) (m_text (m_iload (m_iload (m_bin (m_callt hi))))))))))))))))
theorem mobm_844 : xBm bm_844 := fun dl fs i1 i2 fin hi => (m_istore (m_iconst (m_istore (m_iload (m_iload (m_iload (m_bin (m_if2 (m_xgo hi) (m_iload (m_if1 (m_xgo hi) (m_text (m_iload (m_iload (m_bin (m_callt hi)))))))))))))))
theorem mobm_845 : xBm bm_845 := fun dl fs i1 i2 fin hi => (m_iload (m_iload (m_iload (m_bin (m_if2 (m_xgo hi) (m_iload (m_if1 (m_xgo hi) (m_text (m_iload (m_iload (m_bin (m_callt hi))))))))))))
theorem mobm_846 : xBm bm_846 := fun dl fs i1 i2 fin hi => (m_aload (m_getr (m_iload (m_iload (m_bin (m_ald (m_if2 (m_xgo hi) (m_iconst (m_xgo hi)))))))))
theorem mobm_847 : xBm bm_847 := fun dl fs i1 i2 fin hi => (m_iconst (m_istore (m_iinc (m_xgo hi))))
theorem mobm_848 : xBm bm_848 := fun dl fs i1 i2 fin hi => (m_istore (m_iinc (m_xgo hi)))
theorem mobm_849 : xBm bm_849 := fun dl fs i1 i2 fin hi => (m_iload (m_if1 (m_xgo hi) (m_iload (m_iret hi))))
theorem mobm_850 : xBm bm_850 := fun dl fs i1 i2 fin hi => (m_iload (m_iconst (m_bin (m_istore (m_iinc (m_xgo hi))))))
theorem mobm_851 : xBm bm_851 := fun dl fs i1 i2 fin hi => (m_iconst (m_iret hi))
theorem mobm_852 : xBm bm_852 := fun dl fs i1 i2 fin hi => (m_aload (m_callt hi))
theorem mobm_853 : xBm bm_853 := fun dl fs i1 i2 fin hi => (m_if1 m_no (m_aload (m_tval (m_iload (m_calls hi)))))
theorem mobm_854 : xBm bm_854 := fun dl fs i1 i2 fin hi => (m_cret hi)
theorem mobm_855 : xBm bm_855 := fun dl fs i1 i2 fin hi => (m_iconst (m_if1 m_no (m_aload (m_tcod (m_xgo hi)))))
theorem mobm_856 : xBm bm_856 := fun dl fs i1 i2 fin hi => (m_bret hi)
theorem mobm_857 : xBm bm_857 := fun dl fs i1 i2 fin hi => (m_aload (m_iload (m_iconst (m_callt hi))))
theorem mobm_858 : xBm bm_858 := fun dl fs i1 i2 fin hi => (m_iret hi)
theorem mobm_859 : xBm bm_859 := fun dl fs i1 i2 fin hi => (m_aload (m_callt hi))
theorem mobm_860 : xBm bm_860 := fun dl fs i1 i2 fin hi => (m_if1 m_no (m_aload (m_tval (m_iload (m_iload (m_aload (m_callt hi)))))))
theorem mobm_861 : xBm bm_861 := fun dl fs i1 i2 fin hi => (m_calls hi)
theorem mobm_862 : xBm bm_862 := fun dl fs i1 i2 fin hi => (m_xgo hi)
theorem mobm_863 : xBm bm_863 := fun dl fs i1 i2 fin hi => (m_iret hi)
theorem mobm_864 : xBm bm_864 := fun dl fs i1 i2 fin hi => (m_iconst (m_if1 m_no (m_aload (m_tcod (m_if1 m_no (m_iconst (m_xgo hi)))))))
theorem mobm_865 : xBm bm_865 := fun dl fs i1 i2 fin hi => (m_zret hi)
theorem mobm_866 : xBm bm_866 := fun dl fs i1 i2 fin hi => (m_aload (m_tval (m_tlen (m_aload (m_callt hi)))))
theorem mobm_867 : xBm bm_867 := fun dl fs i1 i2 fin hi => (m_ishr (m_iret hi))
theorem mobm_868 : xBm bm_868 := fun dl fs i1 i2 fin hi => (m_iload (m_if1 m_no (m_iload (m_iconst (m_if2 m_no (m_iconst (m_xgo hi)))))))
theorem mobm_869 : xBm bm_869 := fun dl fs i1 i2 fin hi => (m_zret hi)
theorem mobm_870 : xBm bm_870 := fun dl fs i1 i2 fin hi => (m_iload (m_aload (m_tlen (m_ckix (m_aload (m_iload (m_tald (m_iconst (m_bin (m_un (m_cret hi)))))))))))
theorem mobm_871 : xBm bm_871 := fun dl fs i1 i2 fin hi => (m_iload (m_calls hi))
theorem mobm_872 : xBm bm_872 := fun dl fs i1 i2 fin hi => (m_if1 (m_xgo hi) m_no)
theorem mobm_873 : xBm bm_873 := fun dl fs i1 i2 fin hi => (m_iload (m_iconst (m_mmax (m_istore (m_iload (m_aload (m_tlen (m_mmin (m_istore (m_iload (m_iload (m_if2 (m_xgo hi) m_no))))))))))))
theorem mobm_874 : xBm bm_874 := fun dl fs i1 i2 fin hi => (m_aload (m_iload (m_iload (m_iload (m_calls hi)))))
theorem mobm_875 : xBm bm_875 := fun dl fs i1 i2 fin hi => (m_iret hi)
theorem mobm_876 : xBm bm_876 := fun dl fs i1 i2 fin hi => (m_iload (m_un (m_istore (m_iload (m_istore (m_iload (m_iload (m_if2 (m_xgo hi) (m_aload (m_iload (m_tald (m_iload (m_if2 (m_xgo hi) (m_iload (m_iret hi)))))))))))))))
theorem mobm_877 : xBm bm_877 := fun dl fs i1 i2 fin hi => (m_iload (m_iload (m_if2 (m_xgo hi) (m_aload (m_iload (m_tald (m_iload (m_if2 (m_xgo hi) (m_iload (m_iret hi))))))))))
theorem mobm_878 : xBm bm_878 := fun dl fs i1 i2 fin hi => (m_iinc (m_xgo hi))
theorem mobm_879 : xBm bm_879 := fun dl fs i1 i2 fin hi => (m_iconst (m_iret hi))
theorem mobm_880 : xBm bm_880 := fun dl fs i1 i2 fin hi => (m_aload (m_iconst (m_newa (m_putr (m_aload (m_iconst (m_newa (m_putr (m_aload (m_iconst (m_newa (m_putr (m_aload (m_iconst (m_newa (m_putr (m_aload (m_iconst (m_newa (m_putr (m_aload (m_iconst (m_xgo hi)))))))))))))))))))))))
theorem mobm_881 : xBm bm_881 := fun dl fs i1 i2 fin hi => (m_aload (m_callv hi))
theorem mobm_882 : xBm bm_882 := fun dl fs i1 i2 fin hi => (m_aload (m_aload (m_callv hi)))
theorem mobm_883 : xBm bm_883 := fun dl fs i1 i2 fin hi => (m_iload (m_iret hi))
theorem mobm_884 : xBm bm_884 := fun dl fs i1 i2 fin hi => (m_iload (m_ast (m_aload (m_getr (m_iload (m_dup2 (m_ald (m_iconst (m_bin (m_ast (m_aload (m_dup (m_geti (m_iconst (m_bin (m_puti (m_ret hi)))))))))))))))))
theorem mobm_885 : xBm bm_885 := fun dl fs i1 i2 fin hi => (m_aload (m_getr (m_iload (m_ald (m_istore (m_iload (m_if1 (m_xgo hi) (m_aload (m_getr (m_iload (m_ald (m_iconst (m_if2 (m_xgo hi) m_no)))))))))))))
theorem mobm_886 : xBm bm_886 := fun dl fs i1 i2 fin hi => (m_iload (m_ast (m_aload (m_getr (m_aload (m_geti (m_iconst (m_ast (m_aload (m_getr (m_aload (m_geti (m_iconst (m_ast (m_aload (m_dup (m_geti (m_iconst (m_bin (m_puti (m_ret hi)))))))))))))))))))))
theorem mobm_887 : xBm bm_887 := fun dl fs i1 i2 fin hi => (m_geti (m_iconst (m_ast (m_aload (m_dup (m_geti (m_iconst (m_bin (m_puti (m_ret hi))))))))))
theorem mobm_888 : xBm bm_888 := fun dl fs i1 i2 fin hi => (m_getr (m_aload (m_getr (m_iload (m_ald (m_ald (m_iconst (m_if2 (m_xgo hi) (m_aload (m_getr (m_aload (m_getr (m_iload (m_ald (m_iconst (m_bin (m_ald (m_iconst (m_if2 (m_xgo hi) (m_aload (m_getr (m_aload (m_xgo hi)))))))))))))))))))))))
theorem mobm_889 : xBm bm_889 := fun dl fs i1 i2 fin hi => (m_getr (m_iload (m_ald (m_ald (m_iconst (m_if2 (m_xgo hi) (m_aload (m_getr (m_aload (m_getr (m_iload (m_ald (m_iconst (m_bin (m_ald (m_iconst (m_if2 (m_xgo hi) (m_aload (m_getr (m_aload (m_getr (m_iload (m_xgo hi)))))))))))))))))))))))
theorem mobm_890 : xBm bm_890 := fun dl fs i1 i2 fin hi => (m_aload (m_getr (m_aload (m_getr (m_iload (m_ald (m_ald (m_istore (m_xgo hi)))))))))
theorem mobm_891 : xBm bm_891 := fun dl fs i1 i2 fin hi => (m_iload (m_ald (m_ald (m_istore (m_xgo hi)))))
theorem mobm_892 : xBm bm_892 := fun dl fs i1 i2 fin hi => (m_aload (m_callv hi))
theorem mobm_893 : xBm bm_893 := fun dl fs i1 i2 fin hi => (m_iconst (m_xgo hi))
theorem mobm_894 : xBm bm_894 := fun dl fs i1 i2 fin hi => (m_aload (m_getr (m_iload (m_aload (m_getr (m_iload (m_ald (m_ast (m_aload (m_getr (m_iload (m_aload (m_getr (m_iload (m_ald (m_ast (m_xgo hi)))))))))))))))))
theorem mobm_895 : xBm bm_895 := fun dl fs i1 i2 fin hi => (m_iload (m_iret hi))
theorem mobm_896 : xBm bm_896 := fun dl fs i1 i2 fin hi => (m_iret hi)
theorem mobm_897 : xBm bm_897 := fun dl fs i1 i2 fin hi => (m_puti (m_iconst (m_istore (m_iload (m_iload (m_if2 (m_xgo hi) (m_iload (m_iload (m_if2 (m_xgo hi) (m_aload (m_getr (m_aload (m_geti (m_aload (m_aload (m_getr (m_iload (m_ald (m_iload (m_callv hi))))))))))))))))))))
theorem mobm_898 : xBm bm_898 := fun dl fs i1 i2 fin hi => (m_ast (m_xgo hi))
theorem mobm_899 : xBm bm_899 := fun dl fs i1 i2 fin hi => (m_iconst (m_bin (m_puti (m_iinc (m_xgo hi)))))
theorem mobm_900 : xBm bm_900 := fun dl fs i1 i2 fin hi => (m_puti (m_iinc (m_xgo hi)))
theorem mobm_901 : xBm bm_901 := fun dl fs i1 i2 fin hi => (m_aload (m_callv hi))
theorem mobm_902 : xBm bm_902 := fun dl fs i1 i2 fin hi => (m_iconst (m_if2 (m_xgo hi) (m_iconst (m_xgo hi))))
theorem mobm_903 : xBm bm_903 := fun dl fs i1 i2 fin hi => (m_getr (m_iload (m_aload (m_geti (m_ast (m_aload (m_dup (m_geti (m_iconst (m_bin (m_puti (m_ret hi))))))))))))
theorem mobm_904 : xBm bm_904 := fun dl fs i1 i2 fin hi => (m_aload (m_getr (m_iload (m_iload (m_ast (m_xgo hi))))))
theorem mobm_905 : xBm bm_905 := fun dl fs i1 i2 fin hi => (m_if2 (m_xgo hi) m_no)
theorem mobm_906 : xBm bm_906 := fun dl fs i1 i2 fin hi => (m_getr (m_aload (m_getr (m_iload (m_ald (m_iconst (m_ast (m_xgo hi))))))))
theorem mobm_907 : xBm bm_907 := fun dl fs i1 i2 fin hi => (m_aload (m_getr (m_aload (m_geti (m_iload (m_ast (m_aload (m_getr (m_aload (m_geti (m_iload (m_ast (m_aload (m_getr (m_aload (m_geti (m_iload (m_ast (m_aload (m_dup (m_geti (m_iconst (m_xgo hi)))))))))))))))))))))))
theorem mobm_908 : xBm bm_908 := fun dl fs i1 i2 fin hi => (m_aload (m_geti (m_iload (m_ast (m_aload (m_dup (m_geti (m_iconst (m_bin (m_puti (m_aload (m_geti (m_istore (m_aload (m_getr (m_iload (m_ald (m_istore (m_xgo hi)))))))))))))))))))
theorem mobm_909 : xBm bm_909 := fun dl fs i1 i2 fin hi => (m_ret hi)
theorem mobm_910 : xBm bm_910 := fun dl fs i1 i2 fin hi => (m_dup (m_geti (m_iconst (m_bin (m_puti (m_aload (m_getr (m_iload (m_aload (m_getr (m_iload (m_ald (m_ast (m_xgo hi))))))))))))))
theorem mobm_911 : xBm bm_911 := fun dl fs i1 i2 fin hi => (m_iload (m_iret hi))
theorem mobm_912 : xBm bm_912 := fun dl fs i1 i2 fin hi => (m_aload (m_iconst (m_callv hi)))
theorem mobm_913 : xBm bm_913 := fun dl fs i1 i2 fin hi => (m_iload (m_iconst (m_ast (m_aload (m_getr (m_iload (m_iconst (m_ast (m_aload (m_getr (m_iload (m_iload (m_ast (m_aload (m_getr (m_iload (m_iconst (m_ast (m_iload (m_iret hi))))))))))))))))))))
theorem mobm_914 : xBm bm_914 := fun dl fs i1 i2 fin hi => (m_xgo hi)
theorem mobm_915 : xBm bm_915 := fun dl fs i1 i2 fin hi => (m_callv hi)
theorem mobm_916 : xBm bm_916 := fun dl fs i1 i2 fin hi => (m_iload (m_iret hi))
theorem mobm_917 : xBm bm_917 := fun dl fs i1 i2 fin hi => (m_aload (m_callv hi))
theorem mobm_918 : xBm bm_918 := fun dl fs i1 i2 fin hi => (m_iload (m_iret hi))
theorem mobm_919 : xBm bm_919 := fun dl fs i1 i2 fin hi => (m_callv hi)
theorem mobm_920 : xBm bm_920 := fun dl fs i1 i2 fin hi => (m_iload (m_if1 (m_xgo hi) (m_aload (m_iconst (m_callv hi)))))
theorem mobm_921 : xBm bm_921 := fun dl fs i1 i2 fin hi => (m_iconst (m_callv hi))
theorem mobm_922 : xBm bm_922 := fun dl fs i1 i2 fin hi => (m_callv hi)
theorem mobm_923 : xBm bm_923 := fun dl fs i1 i2 fin hi => (m_iret hi)
theorem mobm_924 : xBm bm_924 := fun dl fs i1 i2 fin hi => (m_getr (m_iload (m_aload (m_geti (m_ast (m_aload (m_getr (m_aload (m_geti (m_iconst (m_ast (m_aload (m_getr (m_aload (m_geti (m_iconst (m_ast (m_aload (m_getr (m_aload (m_geti (m_iconst (m_xgo hi)))))))))))))))))))))))
theorem mobm_925 : xBm bm_925 := fun dl fs i1 i2 fin hi => (m_aload (m_getr (m_iload (m_iload (m_ast (m_aload (m_getr (m_iload (m_aload (m_geti (m_iload (m_bin (m_ast (m_xgo hi))))))))))))))
theorem mobm_926 : xBm bm_926 := fun dl fs i1 i2 fin hi => (m_iconst (m_zret hi))
theorem mobm_927 : xBm bm_927 := fun dl fs i1 i2 fin hi => (m_iconst (m_bin (m_puti (m_ret hi))))
theorem mobm_928 : xBm bm_928 := fun dl fs i1 i2 fin hi => (m_iload (m_iconst (m_ast (m_aload (m_getr (m_iload (m_iconst (m_ast (m_aload (m_getr (m_iload (m_iconst (m_ast (m_aload (m_getr (m_iload (m_iconst (m_ast (m_iload (m_iret hi))))))))))))))))))))
theorem mobm_929 : xBm bm_929 := fun dl fs i1 i2 fin hi => (m_iload (m_iret hi))
theorem mobm_930 : xBm bm_930 := fun dl fs i1 i2 fin hi => (m_newa (m_putr (m_aload (m_iconst (m_newa (m_putr (m_aload (m_iconst (m_newa (m_putr (m_aload (m_iconst (m_newa (m_putr (m_aload (m_iconst (m_newa (m_putr (m_aload (m_iconst (m_newa (m_putr (m_xgo hi)))))))))))))))))))))))
theorem mobm_931 : xBm bm_931 := fun dl fs i1 i2 fin hi => (m_getr (m_iload (m_ald (m_iconst (m_bin (m_ald (m_iconst (m_if2 (m_xgo hi) (m_aload (m_getr (m_aload (m_getr (m_iload (m_ald (m_iconst (m_ast (m_xgo hi)))))))))))))))))
theorem mobm_932 : xBm bm_932 := fun dl fs i1 i2 fin hi => (m_ald (m_iconst (m_bin (m_ald (m_iconst (m_if2 (m_xgo hi) (m_aload (m_getr (m_aload (m_getr (m_iload (m_ald (m_iconst (m_ast (m_xgo hi)))))))))))))))
theorem mobm_933 : xBm bm_933 := fun dl fs i1 i2 fin hi => (m_bin (m_puti (m_aload (m_geti (m_istore (m_aload (m_getr (m_iload (m_ald (m_istore (m_xgo hi)))))))))))
theorem mobm_934 : xBm bm_934 := fun dl fs i1 i2 fin hi => (m_ast (m_aload (m_getr (m_aload (m_geti (m_iconst (m_ast (m_aload (m_getr (m_aload (m_geti (m_iconst (m_ast (m_aload (m_getr (m_aload (m_geti (m_iconst (m_ast (m_aload (m_dup (m_geti (m_xgo hi)))))))))))))))))))))))
theorem mobm_935 : xBm bm_935 := fun dl fs i1 i2 fin hi => (m_aload (m_iconst (m_newa (m_putr (m_aload (m_iconst (m_newa (m_putr (m_aload (m_iconst (m_newa (m_putr (m_aload (m_iconst (m_newa (m_putr (m_aload (m_iconst (m_newa (m_putr (m_aload (m_iconst (m_xgo hi)))))))))))))))))))))))
theorem mobm_936 : xBm bm_936 := fun dl fs i1 i2 fin hi => (m_iconst (m_bin (m_puti (m_aload (m_geti (m_iconst (m_bin (m_iret hi))))))))
theorem mobm_937 : xBm bm_937 := fun dl fs i1 i2 fin hi => (m_newa (m_putr (m_aload (m_iconst (m_newa (m_putr (m_aload (m_iconst (m_newa (m_putr (m_aload (m_iconst (m_newa (m_putr (m_aload (m_iconst (m_newa (m_putr (m_aload (m_iconst (m_newa (m_putr (m_xgo hi)))))))))))))))))))))))
theorem mobm_938 : xBm bm_938 := fun dl fs i1 i2 fin hi => (m_aload (m_iconst (m_newa (m_putr (m_aload (m_iconst (m_newa (m_putr (m_aload (m_iconst (m_newa (m_putr (m_aload (m_iconst (m_newa (m_putr (m_aload (m_iconst (m_newa (m_putr (m_aload (m_iconst (m_xgo hi)))))))))))))))))))))))
theorem mobm_939 : xBm bm_939 := fun dl fs i1 i2 fin hi => (m_newa (m_putr (m_aload (m_iconst (m_newa (m_putr (m_aload (m_iconst (m_newa (m_putr (m_aload (m_iconst (m_newa (m_putr (m_aload (m_iconst (m_newa (m_putr (m_aload (m_iconst (m_newa (m_putr (m_xgo hi)))))))))))))))))))))))
theorem mobm_940 : xBm bm_940 := fun dl fs i1 i2 fin hi => (m_aload (m_iconst (m_newa (m_putr (m_aload (m_iconst (m_newa (m_putr (m_aload (m_iconst (m_newa (m_putr (m_aload (m_iconst (m_newa (m_putr (m_aload (m_iconst (m_newa (m_putr (m_aload (m_iconst (m_xgo hi)))))))))))))))))))))))
theorem mobm_941 : xBm bm_941 := fun dl fs i1 i2 fin hi => (m_newa (m_putr (m_aload (m_iconst (m_newa (m_putr (m_aload (m_iconst (m_newa (m_putr (m_aload (m_iconst (m_newa (m_putr (m_aload (m_iconst (m_newa (m_putr (m_aload (m_iconst (m_newa (m_putr (m_xgo hi)))))))))))))))))))))))
theorem mobm_942 : xBm bm_942 := fun dl fs i1 i2 fin hi => (m_aload (m_iconst (m_newa (m_putr (m_aload (m_iconst (m_newa (m_putr (m_aload (m_iconst (m_newa (m_putr (m_aload (m_iconst (m_newa (m_putr (m_aload (m_iconst (m_newa (m_putr (m_aload (m_iconst (m_xgo hi)))))))))))))))))))))))
theorem mobm_943 : xBm bm_943 := fun dl fs i1 i2 fin hi => (m_newa (m_putr (m_aload (m_iconst (m_newa (m_putr (m_aload (m_iconst (m_newa (m_putr (m_aload (m_iconst (m_newa (m_putr (m_aload (m_iconst (m_newa (m_putr (m_aload (m_iconst (m_newa (m_putr (m_xgo hi)))))))))))))))))))))))
theorem mobm_944 : xBm bm_944 := fun dl fs i1 i2 fin hi => (m_aload (m_iconst (m_newa (m_putr (m_aload (m_iconst (m_newa (m_putr (m_aload (m_iconst (m_newa (m_putr (m_aload (m_iconst (m_newa (m_putr (m_aload (m_iconst (m_newa (m_putr (m_aload (m_iconst (m_xgo hi)))))))))))))))))))))))
theorem mobm_945 : xBm bm_945 := fun dl fs i1 i2 fin hi => (m_newa (m_putr (m_aload (m_iconst (m_newa (m_putr (m_aload (m_iconst (m_newa (m_putr (m_aload (m_iconst (m_newa (m_putr (m_aload (m_iconst (m_newa (m_putr (m_aload (m_iconst (m_newa (m_putr (m_xgo hi)))))))))))))))))))))))
theorem mobm_946 : xBm bm_946 := fun dl fs i1 i2 fin hi => (m_aload (m_iconst (m_newa (m_putr (m_aload (m_iconst (m_newa (m_putr (m_aload (m_iconst (m_newa (m_putr (m_aload (m_iconst (m_newa (m_putr (m_aload (m_iconst (m_newa (m_putr (m_aload (m_iconst (m_xgo hi)))))))))))))))))))))))
theorem mobm_947 : xBm bm_947 := fun dl fs i1 i2 fin hi => (m_newa (m_putr (m_aload (m_iconst (m_newa (m_putr (m_aload (m_iconst (m_newa (m_putr (m_aload (m_iconst (m_newa (m_putr (m_aload (m_iconst (m_newa (m_putr (m_aload (m_iconst (m_newa (m_putr (m_xgo hi)))))))))))))))))))))))
theorem mobm_948 : xBm bm_948 := fun dl fs i1 i2 fin hi => (m_aload (m_iconst (m_newa (m_putr (m_aload (m_iconst (m_newa (m_putr (m_aload (m_iconst (m_newa (m_putr (m_aload (m_iconst (m_newa (m_putr (m_aload (m_iconst (m_newa (m_putr (m_aload (m_iconst (m_xgo hi)))))))))))))))))))))))
theorem mobm_949 : xBm bm_949 := fun dl fs i1 i2 fin hi => (m_newa (m_putr (m_aload (m_iconst (m_newa (m_putr (m_aload (m_iconst (m_newa (m_putr (m_aload (m_iconst (m_newa (m_putr (m_aload (m_iconst (m_newa (m_putr (m_aload (m_iconst (m_newa (m_putr (m_xgo hi)))))))))))))))))))))))
theorem mobm_950 : xBm bm_950 := fun dl fs i1 i2 fin hi => (m_aload (m_iconst (m_newa (m_putr (m_aload (m_iconst (m_newa (m_putr (m_aload (m_iconst (m_newa (m_putr (m_aload (m_iconst (m_newa (m_putr (m_aload (m_iconst (m_newa (m_putr (m_aload (m_iconst (m_xgo hi)))))))))))))))))))))))
theorem mobm_951 : xBm bm_951 := fun dl fs i1 i2 fin hi => (m_newa (m_putr (m_aload (m_iconst (m_newa (m_putr (m_aload (m_iconst (m_newa (m_putr (m_aload (m_iconst (m_newa (m_putr (m_aload (m_iconst (m_newa (m_putr (m_aload (m_iconst (m_newa (m_putr (m_xgo hi)))))))))))))))))))))))
theorem mobm_952 : xBm bm_952 := fun dl fs i1 i2 fin hi => (m_aload (m_iconst (m_newa (m_putr (m_aload (m_iconst (m_newa (m_putr (m_aload (m_iconst (m_newa (m_putr (m_aload (m_iconst (m_newa (m_putr (m_aload (m_iconst (m_newa (m_putr (m_aload (m_iconst (m_xgo hi)))))))))))))))))))))))
theorem mobm_953 : xBm bm_953 := fun dl fs i1 i2 fin hi => (m_newa (m_putr (m_aload (m_iconst (m_newa (m_putr (m_aload (m_iconst (m_newa (m_putr (m_aload (m_iconst (m_newa (m_putr (m_aload (m_iconst (m_newa (m_putr (m_aload (m_iconst (m_newa (m_putr (m_xgo hi)))))))))))))))))))))))
theorem mobm_954 : xBm bm_954 := fun dl fs i1 i2 fin hi => (m_aload (m_iconst (m_newa (m_putr (m_aload (m_iconst (m_newa (m_putr (m_aload (m_iconst (m_newa (m_putr (m_aload (m_iconst (m_newa (m_putr (m_aload (m_iconst (m_newa (m_putr (m_aload (m_iconst (m_xgo hi)))))))))))))))))))))))
theorem mobm_955 : xBm bm_955 := fun dl fs i1 i2 fin hi => (m_newa (m_putr (m_aload (m_iconst (m_newa (m_putr (m_aload (m_iconst (m_newa (m_putr (m_aload (m_iconst (m_newa (m_putr (m_aload (m_iconst (m_newa (m_putr (m_aload (m_iconst (m_newa (m_putr (m_xgo hi)))))))))))))))))))))))
theorem mobm_956 : xBm bm_956 := fun dl fs i1 i2 fin hi => (m_aload (m_iconst (m_newa (m_putr (m_aload (m_iconst (m_newa (m_putr (m_aload (m_iconst (m_newa (m_putr (m_aload (m_iconst (m_newa (m_putr (m_aload (m_iconst (m_newa (m_putr (m_aload (m_iconst (m_xgo hi)))))))))))))))))))))))
theorem mobm_957 : xBm bm_957 := fun dl fs i1 i2 fin hi => (m_newa (m_putr (m_aload (m_iconst (m_newa (m_putr (m_aload (m_iconst (m_newa (m_putr (m_aload (m_iconst (m_newa (m_putr (m_aload (m_iconst (m_newa (m_putr (m_aload (m_iconst (m_newa (m_putr (m_xgo hi)))))))))))))))))))))))
theorem mobm_958 : xBm bm_958 := fun dl fs i1 i2 fin hi => (m_aload (m_iconst (m_newa (m_putr (m_aload (m_iconst (m_newa (m_putr (m_aload (m_iconst (m_newa (m_putr (m_aload (m_aload (m_getr (m_iconst (m_iconst (m_aload (m_getr (m_iconst (m_iconst (m_callv hi))))))))))))))))))))))
theorem mobm_no : xBm bm_no := fun _ _ _ _ _ _ => m_no
theorem mocodem_z1 (b s : Nat) : xall (fun _ a => xBm a) 1 b s codem_z1 := And.intro mobm_no mobm_no
theorem mocodem_z2 (b s : Nat) : xall (fun _ a => xBm a) 2 b s codem_z2 := And.intro (mocodem_z1 b (2 * s)) (mocodem_z1 (b + s) (2 * s))
theorem mocodem_z3 (b s : Nat) : xall (fun _ a => xBm a) 3 b s codem_z3 := And.intro (mocodem_z2 b (2 * s)) (mocodem_z2 (b + s) (2 * s))
theorem mocodem_z4 (b s : Nat) : xall (fun _ a => xBm a) 4 b s codem_z4 := And.intro (mocodem_z3 b (2 * s)) (mocodem_z3 (b + s) (2 * s))
theorem mocodem_z5 (b s : Nat) : xall (fun _ a => xBm a) 5 b s codem_z5 := And.intro (mocodem_z4 b (2 * s)) (mocodem_z4 (b + s) (2 * s))
theorem mocodem_z6 (b s : Nat) : xall (fun _ a => xBm a) 6 b s codem_z6 := And.intro (mocodem_z5 b (2 * s)) (mocodem_z5 (b + s) (2 * s))
theorem mocodem_z7 (b s : Nat) : xall (fun _ a => xBm a) 7 b s codem_z7 := And.intro (mocodem_z6 b (2 * s)) (mocodem_z6 (b + s) (2 * s))
theorem mocodem_z8 (b s : Nat) : xall (fun _ a => xBm a) 8 b s codem_z8 := And.intro (mocodem_z7 b (2 * s)) (mocodem_z7 (b + s) (2 * s))
theorem mocodem_z9 (b s : Nat) : xall (fun _ a => xBm a) 9 b s codem_z9 := And.intro (mocodem_z8 b (2 * s)) (mocodem_z8 (b + s) (2 * s))
theorem mocodem_z10 (b s : Nat) : xall (fun _ a => xBm a) 10 b s codem_z10 := And.intro (mocodem_z9 b (2 * s)) (mocodem_z9 (b + s) (2 * s))
theorem mocodem_0 (b s : Nat) : xall (fun _ a => xBm a) 1 b s codem_0 := And.intro mobm_0 mobm_512
theorem mocodem_1 (b s : Nat) : xall (fun _ a => xBm a) 1 b s codem_1 := And.intro mobm_256 mobm_768
theorem mocodem_2 (b s : Nat) : xall (fun _ a => xBm a) 2 b s codem_2 := And.intro (mocodem_0 b (2 * s)) (mocodem_1 (b + s) (2 * s))
theorem mocodem_3 (b s : Nat) : xall (fun _ a => xBm a) 1 b s codem_3 := And.intro mobm_128 mobm_640
theorem mocodem_4 (b s : Nat) : xall (fun _ a => xBm a) 1 b s codem_4 := And.intro mobm_384 mobm_896
theorem mocodem_5 (b s : Nat) : xall (fun _ a => xBm a) 2 b s codem_5 := And.intro (mocodem_3 b (2 * s)) (mocodem_4 (b + s) (2 * s))
theorem mocodem_6 (b s : Nat) : xall (fun _ a => xBm a) 3 b s codem_6 := And.intro (mocodem_2 b (2 * s)) (mocodem_5 (b + s) (2 * s))
theorem mocodem_7 (b s : Nat) : xall (fun _ a => xBm a) 1 b s codem_7 := And.intro mobm_64 mobm_576
theorem mocodem_8 (b s : Nat) : xall (fun _ a => xBm a) 1 b s codem_8 := And.intro mobm_320 mobm_832
theorem mocodem_9 (b s : Nat) : xall (fun _ a => xBm a) 2 b s codem_9 := And.intro (mocodem_7 b (2 * s)) (mocodem_8 (b + s) (2 * s))
theorem mocodem_10 (b s : Nat) : xall (fun _ a => xBm a) 1 b s codem_10 := And.intro mobm_192 mobm_704
theorem mocodem_11 (b s : Nat) : xall (fun _ a => xBm a) 1 b s codem_11 := And.intro mobm_448 mobm_no
theorem mocodem_12 (b s : Nat) : xall (fun _ a => xBm a) 2 b s codem_12 := And.intro (mocodem_10 b (2 * s)) (mocodem_11 (b + s) (2 * s))
theorem mocodem_13 (b s : Nat) : xall (fun _ a => xBm a) 3 b s codem_13 := And.intro (mocodem_9 b (2 * s)) (mocodem_12 (b + s) (2 * s))
theorem mocodem_14 (b s : Nat) : xall (fun _ a => xBm a) 4 b s codem_14 := And.intro (mocodem_6 b (2 * s)) (mocodem_13 (b + s) (2 * s))
theorem mocodem_15 (b s : Nat) : xall (fun _ a => xBm a) 1 b s codem_15 := And.intro mobm_32 mobm_544
theorem mocodem_16 (b s : Nat) : xall (fun _ a => xBm a) 1 b s codem_16 := And.intro mobm_288 mobm_800
theorem mocodem_17 (b s : Nat) : xall (fun _ a => xBm a) 2 b s codem_17 := And.intro (mocodem_15 b (2 * s)) (mocodem_16 (b + s) (2 * s))
theorem mocodem_18 (b s : Nat) : xall (fun _ a => xBm a) 1 b s codem_18 := And.intro mobm_160 mobm_672
theorem mocodem_19 (b s : Nat) : xall (fun _ a => xBm a) 1 b s codem_19 := And.intro mobm_416 mobm_928
theorem mocodem_20 (b s : Nat) : xall (fun _ a => xBm a) 2 b s codem_20 := And.intro (mocodem_18 b (2 * s)) (mocodem_19 (b + s) (2 * s))
theorem mocodem_21 (b s : Nat) : xall (fun _ a => xBm a) 3 b s codem_21 := And.intro (mocodem_17 b (2 * s)) (mocodem_20 (b + s) (2 * s))
theorem mocodem_22 (b s : Nat) : xall (fun _ a => xBm a) 1 b s codem_22 := And.intro mobm_96 mobm_608
theorem mocodem_23 (b s : Nat) : xall (fun _ a => xBm a) 1 b s codem_23 := And.intro mobm_352 mobm_864
theorem mocodem_24 (b s : Nat) : xall (fun _ a => xBm a) 2 b s codem_24 := And.intro (mocodem_22 b (2 * s)) (mocodem_23 (b + s) (2 * s))
theorem mocodem_25 (b s : Nat) : xall (fun _ a => xBm a) 1 b s codem_25 := And.intro mobm_224 mobm_736
theorem mocodem_26 (b s : Nat) : xall (fun _ a => xBm a) 1 b s codem_26 := And.intro mobm_480 mobm_no
theorem mocodem_27 (b s : Nat) : xall (fun _ a => xBm a) 2 b s codem_27 := And.intro (mocodem_25 b (2 * s)) (mocodem_26 (b + s) (2 * s))
theorem mocodem_28 (b s : Nat) : xall (fun _ a => xBm a) 3 b s codem_28 := And.intro (mocodem_24 b (2 * s)) (mocodem_27 (b + s) (2 * s))
theorem mocodem_29 (b s : Nat) : xall (fun _ a => xBm a) 4 b s codem_29 := And.intro (mocodem_21 b (2 * s)) (mocodem_28 (b + s) (2 * s))
theorem mocodem_30 (b s : Nat) : xall (fun _ a => xBm a) 5 b s codem_30 := And.intro (mocodem_14 b (2 * s)) (mocodem_29 (b + s) (2 * s))
theorem mocodem_31 (b s : Nat) : xall (fun _ a => xBm a) 1 b s codem_31 := And.intro mobm_16 mobm_528
theorem mocodem_32 (b s : Nat) : xall (fun _ a => xBm a) 1 b s codem_32 := And.intro mobm_272 mobm_784
theorem mocodem_33 (b s : Nat) : xall (fun _ a => xBm a) 2 b s codem_33 := And.intro (mocodem_31 b (2 * s)) (mocodem_32 (b + s) (2 * s))
theorem mocodem_34 (b s : Nat) : xall (fun _ a => xBm a) 1 b s codem_34 := And.intro mobm_144 mobm_656
theorem mocodem_35 (b s : Nat) : xall (fun _ a => xBm a) 1 b s codem_35 := And.intro mobm_400 mobm_912
theorem mocodem_36 (b s : Nat) : xall (fun _ a => xBm a) 2 b s codem_36 := And.intro (mocodem_34 b (2 * s)) (mocodem_35 (b + s) (2 * s))
theorem mocodem_37 (b s : Nat) : xall (fun _ a => xBm a) 3 b s codem_37 := And.intro (mocodem_33 b (2 * s)) (mocodem_36 (b + s) (2 * s))
theorem mocodem_38 (b s : Nat) : xall (fun _ a => xBm a) 1 b s codem_38 := And.intro mobm_80 mobm_592
theorem mocodem_39 (b s : Nat) : xall (fun _ a => xBm a) 1 b s codem_39 := And.intro mobm_336 mobm_848
theorem mocodem_40 (b s : Nat) : xall (fun _ a => xBm a) 2 b s codem_40 := And.intro (mocodem_38 b (2 * s)) (mocodem_39 (b + s) (2 * s))
theorem mocodem_41 (b s : Nat) : xall (fun _ a => xBm a) 1 b s codem_41 := And.intro mobm_208 mobm_720
theorem mocodem_42 (b s : Nat) : xall (fun _ a => xBm a) 1 b s codem_42 := And.intro mobm_464 mobm_no
theorem mocodem_43 (b s : Nat) : xall (fun _ a => xBm a) 2 b s codem_43 := And.intro (mocodem_41 b (2 * s)) (mocodem_42 (b + s) (2 * s))
theorem mocodem_44 (b s : Nat) : xall (fun _ a => xBm a) 3 b s codem_44 := And.intro (mocodem_40 b (2 * s)) (mocodem_43 (b + s) (2 * s))
theorem mocodem_45 (b s : Nat) : xall (fun _ a => xBm a) 4 b s codem_45 := And.intro (mocodem_37 b (2 * s)) (mocodem_44 (b + s) (2 * s))
theorem mocodem_46 (b s : Nat) : xall (fun _ a => xBm a) 1 b s codem_46 := And.intro mobm_48 mobm_560
theorem mocodem_47 (b s : Nat) : xall (fun _ a => xBm a) 1 b s codem_47 := And.intro mobm_304 mobm_816
theorem mocodem_48 (b s : Nat) : xall (fun _ a => xBm a) 2 b s codem_48 := And.intro (mocodem_46 b (2 * s)) (mocodem_47 (b + s) (2 * s))
theorem mocodem_49 (b s : Nat) : xall (fun _ a => xBm a) 1 b s codem_49 := And.intro mobm_176 mobm_688
theorem mocodem_50 (b s : Nat) : xall (fun _ a => xBm a) 1 b s codem_50 := And.intro mobm_432 mobm_944
theorem mocodem_51 (b s : Nat) : xall (fun _ a => xBm a) 2 b s codem_51 := And.intro (mocodem_49 b (2 * s)) (mocodem_50 (b + s) (2 * s))
theorem mocodem_52 (b s : Nat) : xall (fun _ a => xBm a) 3 b s codem_52 := And.intro (mocodem_48 b (2 * s)) (mocodem_51 (b + s) (2 * s))
theorem mocodem_53 (b s : Nat) : xall (fun _ a => xBm a) 1 b s codem_53 := And.intro mobm_112 mobm_624
theorem mocodem_54 (b s : Nat) : xall (fun _ a => xBm a) 1 b s codem_54 := And.intro mobm_368 mobm_880
theorem mocodem_55 (b s : Nat) : xall (fun _ a => xBm a) 2 b s codem_55 := And.intro (mocodem_53 b (2 * s)) (mocodem_54 (b + s) (2 * s))
theorem mocodem_56 (b s : Nat) : xall (fun _ a => xBm a) 1 b s codem_56 := And.intro mobm_240 mobm_752
theorem mocodem_57 (b s : Nat) : xall (fun _ a => xBm a) 1 b s codem_57 := And.intro mobm_496 mobm_no
theorem mocodem_58 (b s : Nat) : xall (fun _ a => xBm a) 2 b s codem_58 := And.intro (mocodem_56 b (2 * s)) (mocodem_57 (b + s) (2 * s))
theorem mocodem_59 (b s : Nat) : xall (fun _ a => xBm a) 3 b s codem_59 := And.intro (mocodem_55 b (2 * s)) (mocodem_58 (b + s) (2 * s))
theorem mocodem_60 (b s : Nat) : xall (fun _ a => xBm a) 4 b s codem_60 := And.intro (mocodem_52 b (2 * s)) (mocodem_59 (b + s) (2 * s))
theorem mocodem_61 (b s : Nat) : xall (fun _ a => xBm a) 5 b s codem_61 := And.intro (mocodem_45 b (2 * s)) (mocodem_60 (b + s) (2 * s))
theorem mocodem_62 (b s : Nat) : xall (fun _ a => xBm a) 6 b s codem_62 := And.intro (mocodem_30 b (2 * s)) (mocodem_61 (b + s) (2 * s))
theorem mocodem_63 (b s : Nat) : xall (fun _ a => xBm a) 1 b s codem_63 := And.intro mobm_8 mobm_520
theorem mocodem_64 (b s : Nat) : xall (fun _ a => xBm a) 1 b s codem_64 := And.intro mobm_264 mobm_776
theorem mocodem_65 (b s : Nat) : xall (fun _ a => xBm a) 2 b s codem_65 := And.intro (mocodem_63 b (2 * s)) (mocodem_64 (b + s) (2 * s))
theorem mocodem_66 (b s : Nat) : xall (fun _ a => xBm a) 1 b s codem_66 := And.intro mobm_136 mobm_648
theorem mocodem_67 (b s : Nat) : xall (fun _ a => xBm a) 1 b s codem_67 := And.intro mobm_392 mobm_904
theorem mocodem_68 (b s : Nat) : xall (fun _ a => xBm a) 2 b s codem_68 := And.intro (mocodem_66 b (2 * s)) (mocodem_67 (b + s) (2 * s))
theorem mocodem_69 (b s : Nat) : xall (fun _ a => xBm a) 3 b s codem_69 := And.intro (mocodem_65 b (2 * s)) (mocodem_68 (b + s) (2 * s))
theorem mocodem_70 (b s : Nat) : xall (fun _ a => xBm a) 1 b s codem_70 := And.intro mobm_72 mobm_584
theorem mocodem_71 (b s : Nat) : xall (fun _ a => xBm a) 1 b s codem_71 := And.intro mobm_328 mobm_840
theorem mocodem_72 (b s : Nat) : xall (fun _ a => xBm a) 2 b s codem_72 := And.intro (mocodem_70 b (2 * s)) (mocodem_71 (b + s) (2 * s))
theorem mocodem_73 (b s : Nat) : xall (fun _ a => xBm a) 1 b s codem_73 := And.intro mobm_200 mobm_712
theorem mocodem_74 (b s : Nat) : xall (fun _ a => xBm a) 1 b s codem_74 := And.intro mobm_456 mobm_no
theorem mocodem_75 (b s : Nat) : xall (fun _ a => xBm a) 2 b s codem_75 := And.intro (mocodem_73 b (2 * s)) (mocodem_74 (b + s) (2 * s))
theorem mocodem_76 (b s : Nat) : xall (fun _ a => xBm a) 3 b s codem_76 := And.intro (mocodem_72 b (2 * s)) (mocodem_75 (b + s) (2 * s))
theorem mocodem_77 (b s : Nat) : xall (fun _ a => xBm a) 4 b s codem_77 := And.intro (mocodem_69 b (2 * s)) (mocodem_76 (b + s) (2 * s))
theorem mocodem_78 (b s : Nat) : xall (fun _ a => xBm a) 1 b s codem_78 := And.intro mobm_40 mobm_552
theorem mocodem_79 (b s : Nat) : xall (fun _ a => xBm a) 1 b s codem_79 := And.intro mobm_296 mobm_808
theorem mocodem_80 (b s : Nat) : xall (fun _ a => xBm a) 2 b s codem_80 := And.intro (mocodem_78 b (2 * s)) (mocodem_79 (b + s) (2 * s))
theorem mocodem_81 (b s : Nat) : xall (fun _ a => xBm a) 1 b s codem_81 := And.intro mobm_168 mobm_680
theorem mocodem_82 (b s : Nat) : xall (fun _ a => xBm a) 1 b s codem_82 := And.intro mobm_424 mobm_936
theorem mocodem_83 (b s : Nat) : xall (fun _ a => xBm a) 2 b s codem_83 := And.intro (mocodem_81 b (2 * s)) (mocodem_82 (b + s) (2 * s))
theorem mocodem_84 (b s : Nat) : xall (fun _ a => xBm a) 3 b s codem_84 := And.intro (mocodem_80 b (2 * s)) (mocodem_83 (b + s) (2 * s))
theorem mocodem_85 (b s : Nat) : xall (fun _ a => xBm a) 1 b s codem_85 := And.intro mobm_104 mobm_616
theorem mocodem_86 (b s : Nat) : xall (fun _ a => xBm a) 1 b s codem_86 := And.intro mobm_360 mobm_872
theorem mocodem_87 (b s : Nat) : xall (fun _ a => xBm a) 2 b s codem_87 := And.intro (mocodem_85 b (2 * s)) (mocodem_86 (b + s) (2 * s))
theorem mocodem_88 (b s : Nat) : xall (fun _ a => xBm a) 1 b s codem_88 := And.intro mobm_232 mobm_744
theorem mocodem_89 (b s : Nat) : xall (fun _ a => xBm a) 1 b s codem_89 := And.intro mobm_488 mobm_no
theorem mocodem_90 (b s : Nat) : xall (fun _ a => xBm a) 2 b s codem_90 := And.intro (mocodem_88 b (2 * s)) (mocodem_89 (b + s) (2 * s))
theorem mocodem_91 (b s : Nat) : xall (fun _ a => xBm a) 3 b s codem_91 := And.intro (mocodem_87 b (2 * s)) (mocodem_90 (b + s) (2 * s))
theorem mocodem_92 (b s : Nat) : xall (fun _ a => xBm a) 4 b s codem_92 := And.intro (mocodem_84 b (2 * s)) (mocodem_91 (b + s) (2 * s))
theorem mocodem_93 (b s : Nat) : xall (fun _ a => xBm a) 5 b s codem_93 := And.intro (mocodem_77 b (2 * s)) (mocodem_92 (b + s) (2 * s))
theorem mocodem_94 (b s : Nat) : xall (fun _ a => xBm a) 1 b s codem_94 := And.intro mobm_24 mobm_536
theorem mocodem_95 (b s : Nat) : xall (fun _ a => xBm a) 1 b s codem_95 := And.intro mobm_280 mobm_792
theorem mocodem_96 (b s : Nat) : xall (fun _ a => xBm a) 2 b s codem_96 := And.intro (mocodem_94 b (2 * s)) (mocodem_95 (b + s) (2 * s))
theorem mocodem_97 (b s : Nat) : xall (fun _ a => xBm a) 1 b s codem_97 := And.intro mobm_152 mobm_664
theorem mocodem_98 (b s : Nat) : xall (fun _ a => xBm a) 1 b s codem_98 := And.intro mobm_408 mobm_920
theorem mocodem_99 (b s : Nat) : xall (fun _ a => xBm a) 2 b s codem_99 := And.intro (mocodem_97 b (2 * s)) (mocodem_98 (b + s) (2 * s))
theorem mocodem_100 (b s : Nat) : xall (fun _ a => xBm a) 3 b s codem_100 := And.intro (mocodem_96 b (2 * s)) (mocodem_99 (b + s) (2 * s))
theorem mocodem_101 (b s : Nat) : xall (fun _ a => xBm a) 1 b s codem_101 := And.intro mobm_88 mobm_600
theorem mocodem_102 (b s : Nat) : xall (fun _ a => xBm a) 1 b s codem_102 := And.intro mobm_344 mobm_856
theorem mocodem_103 (b s : Nat) : xall (fun _ a => xBm a) 2 b s codem_103 := And.intro (mocodem_101 b (2 * s)) (mocodem_102 (b + s) (2 * s))
theorem mocodem_104 (b s : Nat) : xall (fun _ a => xBm a) 1 b s codem_104 := And.intro mobm_216 mobm_728
theorem mocodem_105 (b s : Nat) : xall (fun _ a => xBm a) 1 b s codem_105 := And.intro mobm_472 mobm_no
theorem mocodem_106 (b s : Nat) : xall (fun _ a => xBm a) 2 b s codem_106 := And.intro (mocodem_104 b (2 * s)) (mocodem_105 (b + s) (2 * s))
theorem mocodem_107 (b s : Nat) : xall (fun _ a => xBm a) 3 b s codem_107 := And.intro (mocodem_103 b (2 * s)) (mocodem_106 (b + s) (2 * s))
theorem mocodem_108 (b s : Nat) : xall (fun _ a => xBm a) 4 b s codem_108 := And.intro (mocodem_100 b (2 * s)) (mocodem_107 (b + s) (2 * s))
theorem mocodem_109 (b s : Nat) : xall (fun _ a => xBm a) 1 b s codem_109 := And.intro mobm_56 mobm_568
theorem mocodem_110 (b s : Nat) : xall (fun _ a => xBm a) 1 b s codem_110 := And.intro mobm_312 mobm_824
theorem mocodem_111 (b s : Nat) : xall (fun _ a => xBm a) 2 b s codem_111 := And.intro (mocodem_109 b (2 * s)) (mocodem_110 (b + s) (2 * s))
theorem mocodem_112 (b s : Nat) : xall (fun _ a => xBm a) 1 b s codem_112 := And.intro mobm_184 mobm_696
theorem mocodem_113 (b s : Nat) : xall (fun _ a => xBm a) 1 b s codem_113 := And.intro mobm_440 mobm_952
theorem mocodem_114 (b s : Nat) : xall (fun _ a => xBm a) 2 b s codem_114 := And.intro (mocodem_112 b (2 * s)) (mocodem_113 (b + s) (2 * s))
theorem mocodem_115 (b s : Nat) : xall (fun _ a => xBm a) 3 b s codem_115 := And.intro (mocodem_111 b (2 * s)) (mocodem_114 (b + s) (2 * s))
theorem mocodem_116 (b s : Nat) : xall (fun _ a => xBm a) 1 b s codem_116 := And.intro mobm_120 mobm_632
theorem mocodem_117 (b s : Nat) : xall (fun _ a => xBm a) 1 b s codem_117 := And.intro mobm_376 mobm_888
theorem mocodem_118 (b s : Nat) : xall (fun _ a => xBm a) 2 b s codem_118 := And.intro (mocodem_116 b (2 * s)) (mocodem_117 (b + s) (2 * s))
theorem mocodem_119 (b s : Nat) : xall (fun _ a => xBm a) 1 b s codem_119 := And.intro mobm_248 mobm_760
theorem mocodem_120 (b s : Nat) : xall (fun _ a => xBm a) 1 b s codem_120 := And.intro mobm_504 mobm_no
theorem mocodem_121 (b s : Nat) : xall (fun _ a => xBm a) 2 b s codem_121 := And.intro (mocodem_119 b (2 * s)) (mocodem_120 (b + s) (2 * s))
theorem mocodem_122 (b s : Nat) : xall (fun _ a => xBm a) 3 b s codem_122 := And.intro (mocodem_118 b (2 * s)) (mocodem_121 (b + s) (2 * s))
theorem mocodem_123 (b s : Nat) : xall (fun _ a => xBm a) 4 b s codem_123 := And.intro (mocodem_115 b (2 * s)) (mocodem_122 (b + s) (2 * s))
theorem mocodem_124 (b s : Nat) : xall (fun _ a => xBm a) 5 b s codem_124 := And.intro (mocodem_108 b (2 * s)) (mocodem_123 (b + s) (2 * s))
theorem mocodem_125 (b s : Nat) : xall (fun _ a => xBm a) 6 b s codem_125 := And.intro (mocodem_93 b (2 * s)) (mocodem_124 (b + s) (2 * s))
theorem mocodem_126 (b s : Nat) : xall (fun _ a => xBm a) 7 b s codem_126 := And.intro (mocodem_62 b (2 * s)) (mocodem_125 (b + s) (2 * s))
theorem mocodem_127 (b s : Nat) : xall (fun _ a => xBm a) 1 b s codem_127 := And.intro mobm_4 mobm_516
theorem mocodem_128 (b s : Nat) : xall (fun _ a => xBm a) 1 b s codem_128 := And.intro mobm_260 mobm_772
theorem mocodem_129 (b s : Nat) : xall (fun _ a => xBm a) 2 b s codem_129 := And.intro (mocodem_127 b (2 * s)) (mocodem_128 (b + s) (2 * s))
theorem mocodem_130 (b s : Nat) : xall (fun _ a => xBm a) 1 b s codem_130 := And.intro mobm_132 mobm_644
theorem mocodem_131 (b s : Nat) : xall (fun _ a => xBm a) 1 b s codem_131 := And.intro mobm_388 mobm_900
theorem mocodem_132 (b s : Nat) : xall (fun _ a => xBm a) 2 b s codem_132 := And.intro (mocodem_130 b (2 * s)) (mocodem_131 (b + s) (2 * s))
theorem mocodem_133 (b s : Nat) : xall (fun _ a => xBm a) 3 b s codem_133 := And.intro (mocodem_129 b (2 * s)) (mocodem_132 (b + s) (2 * s))
theorem mocodem_134 (b s : Nat) : xall (fun _ a => xBm a) 1 b s codem_134 := And.intro mobm_68 mobm_580
theorem mocodem_135 (b s : Nat) : xall (fun _ a => xBm a) 1 b s codem_135 := And.intro mobm_324 mobm_836
theorem mocodem_136 (b s : Nat) : xall (fun _ a => xBm a) 2 b s codem_136 := And.intro (mocodem_134 b (2 * s)) (mocodem_135 (b + s) (2 * s))
theorem mocodem_137 (b s : Nat) : xall (fun _ a => xBm a) 1 b s codem_137 := And.intro mobm_196 mobm_708
theorem mocodem_138 (b s : Nat) : xall (fun _ a => xBm a) 1 b s codem_138 := And.intro mobm_452 mobm_no
theorem mocodem_139 (b s : Nat) : xall (fun _ a => xBm a) 2 b s codem_139 := And.intro (mocodem_137 b (2 * s)) (mocodem_138 (b + s) (2 * s))
theorem mocodem_140 (b s : Nat) : xall (fun _ a => xBm a) 3 b s codem_140 := And.intro (mocodem_136 b (2 * s)) (mocodem_139 (b + s) (2 * s))
theorem mocodem_141 (b s : Nat) : xall (fun _ a => xBm a) 4 b s codem_141 := And.intro (mocodem_133 b (2 * s)) (mocodem_140 (b + s) (2 * s))
theorem mocodem_142 (b s : Nat) : xall (fun _ a => xBm a) 1 b s codem_142 := And.intro mobm_36 mobm_548
theorem mocodem_143 (b s : Nat) : xall (fun _ a => xBm a) 1 b s codem_143 := And.intro mobm_292 mobm_804
theorem mocodem_144 (b s : Nat) : xall (fun _ a => xBm a) 2 b s codem_144 := And.intro (mocodem_142 b (2 * s)) (mocodem_143 (b + s) (2 * s))
theorem mocodem_145 (b s : Nat) : xall (fun _ a => xBm a) 1 b s codem_145 := And.intro mobm_164 mobm_676
theorem mocodem_146 (b s : Nat) : xall (fun _ a => xBm a) 1 b s codem_146 := And.intro mobm_420 mobm_932
theorem mocodem_147 (b s : Nat) : xall (fun _ a => xBm a) 2 b s codem_147 := And.intro (mocodem_145 b (2 * s)) (mocodem_146 (b + s) (2 * s))
theorem mocodem_148 (b s : Nat) : xall (fun _ a => xBm a) 3 b s codem_148 := And.intro (mocodem_144 b (2 * s)) (mocodem_147 (b + s) (2 * s))
theorem mocodem_149 (b s : Nat) : xall (fun _ a => xBm a) 1 b s codem_149 := And.intro mobm_100 mobm_612
theorem mocodem_150 (b s : Nat) : xall (fun _ a => xBm a) 1 b s codem_150 := And.intro mobm_356 mobm_868
theorem mocodem_151 (b s : Nat) : xall (fun _ a => xBm a) 2 b s codem_151 := And.intro (mocodem_149 b (2 * s)) (mocodem_150 (b + s) (2 * s))
theorem mocodem_152 (b s : Nat) : xall (fun _ a => xBm a) 1 b s codem_152 := And.intro mobm_228 mobm_740
theorem mocodem_153 (b s : Nat) : xall (fun _ a => xBm a) 1 b s codem_153 := And.intro mobm_484 mobm_no
theorem mocodem_154 (b s : Nat) : xall (fun _ a => xBm a) 2 b s codem_154 := And.intro (mocodem_152 b (2 * s)) (mocodem_153 (b + s) (2 * s))
theorem mocodem_155 (b s : Nat) : xall (fun _ a => xBm a) 3 b s codem_155 := And.intro (mocodem_151 b (2 * s)) (mocodem_154 (b + s) (2 * s))
theorem mocodem_156 (b s : Nat) : xall (fun _ a => xBm a) 4 b s codem_156 := And.intro (mocodem_148 b (2 * s)) (mocodem_155 (b + s) (2 * s))
theorem mocodem_157 (b s : Nat) : xall (fun _ a => xBm a) 5 b s codem_157 := And.intro (mocodem_141 b (2 * s)) (mocodem_156 (b + s) (2 * s))
theorem mocodem_158 (b s : Nat) : xall (fun _ a => xBm a) 1 b s codem_158 := And.intro mobm_20 mobm_532
theorem mocodem_159 (b s : Nat) : xall (fun _ a => xBm a) 1 b s codem_159 := And.intro mobm_276 mobm_788
theorem mocodem_160 (b s : Nat) : xall (fun _ a => xBm a) 2 b s codem_160 := And.intro (mocodem_158 b (2 * s)) (mocodem_159 (b + s) (2 * s))
theorem mocodem_161 (b s : Nat) : xall (fun _ a => xBm a) 1 b s codem_161 := And.intro mobm_148 mobm_660
theorem mocodem_162 (b s : Nat) : xall (fun _ a => xBm a) 1 b s codem_162 := And.intro mobm_404 mobm_916
theorem mocodem_163 (b s : Nat) : xall (fun _ a => xBm a) 2 b s codem_163 := And.intro (mocodem_161 b (2 * s)) (mocodem_162 (b + s) (2 * s))
theorem mocodem_164 (b s : Nat) : xall (fun _ a => xBm a) 3 b s codem_164 := And.intro (mocodem_160 b (2 * s)) (mocodem_163 (b + s) (2 * s))
theorem mocodem_165 (b s : Nat) : xall (fun _ a => xBm a) 1 b s codem_165 := And.intro mobm_84 mobm_596
theorem mocodem_166 (b s : Nat) : xall (fun _ a => xBm a) 1 b s codem_166 := And.intro mobm_340 mobm_852
theorem mocodem_167 (b s : Nat) : xall (fun _ a => xBm a) 2 b s codem_167 := And.intro (mocodem_165 b (2 * s)) (mocodem_166 (b + s) (2 * s))
theorem mocodem_168 (b s : Nat) : xall (fun _ a => xBm a) 1 b s codem_168 := And.intro mobm_212 mobm_724
theorem mocodem_169 (b s : Nat) : xall (fun _ a => xBm a) 1 b s codem_169 := And.intro mobm_468 mobm_no
theorem mocodem_170 (b s : Nat) : xall (fun _ a => xBm a) 2 b s codem_170 := And.intro (mocodem_168 b (2 * s)) (mocodem_169 (b + s) (2 * s))
theorem mocodem_171 (b s : Nat) : xall (fun _ a => xBm a) 3 b s codem_171 := And.intro (mocodem_167 b (2 * s)) (mocodem_170 (b + s) (2 * s))
theorem mocodem_172 (b s : Nat) : xall (fun _ a => xBm a) 4 b s codem_172 := And.intro (mocodem_164 b (2 * s)) (mocodem_171 (b + s) (2 * s))
theorem mocodem_173 (b s : Nat) : xall (fun _ a => xBm a) 1 b s codem_173 := And.intro mobm_52 mobm_564
theorem mocodem_174 (b s : Nat) : xall (fun _ a => xBm a) 1 b s codem_174 := And.intro mobm_308 mobm_820
theorem mocodem_175 (b s : Nat) : xall (fun _ a => xBm a) 2 b s codem_175 := And.intro (mocodem_173 b (2 * s)) (mocodem_174 (b + s) (2 * s))
theorem mocodem_176 (b s : Nat) : xall (fun _ a => xBm a) 1 b s codem_176 := And.intro mobm_180 mobm_692
theorem mocodem_177 (b s : Nat) : xall (fun _ a => xBm a) 1 b s codem_177 := And.intro mobm_436 mobm_948
theorem mocodem_178 (b s : Nat) : xall (fun _ a => xBm a) 2 b s codem_178 := And.intro (mocodem_176 b (2 * s)) (mocodem_177 (b + s) (2 * s))
theorem mocodem_179 (b s : Nat) : xall (fun _ a => xBm a) 3 b s codem_179 := And.intro (mocodem_175 b (2 * s)) (mocodem_178 (b + s) (2 * s))
theorem mocodem_180 (b s : Nat) : xall (fun _ a => xBm a) 1 b s codem_180 := And.intro mobm_116 mobm_628
theorem mocodem_181 (b s : Nat) : xall (fun _ a => xBm a) 1 b s codem_181 := And.intro mobm_372 mobm_884
theorem mocodem_182 (b s : Nat) : xall (fun _ a => xBm a) 2 b s codem_182 := And.intro (mocodem_180 b (2 * s)) (mocodem_181 (b + s) (2 * s))
theorem mocodem_183 (b s : Nat) : xall (fun _ a => xBm a) 1 b s codem_183 := And.intro mobm_244 mobm_756
theorem mocodem_184 (b s : Nat) : xall (fun _ a => xBm a) 1 b s codem_184 := And.intro mobm_500 mobm_no
theorem mocodem_185 (b s : Nat) : xall (fun _ a => xBm a) 2 b s codem_185 := And.intro (mocodem_183 b (2 * s)) (mocodem_184 (b + s) (2 * s))
theorem mocodem_186 (b s : Nat) : xall (fun _ a => xBm a) 3 b s codem_186 := And.intro (mocodem_182 b (2 * s)) (mocodem_185 (b + s) (2 * s))
theorem mocodem_187 (b s : Nat) : xall (fun _ a => xBm a) 4 b s codem_187 := And.intro (mocodem_179 b (2 * s)) (mocodem_186 (b + s) (2 * s))
theorem mocodem_188 (b s : Nat) : xall (fun _ a => xBm a) 5 b s codem_188 := And.intro (mocodem_172 b (2 * s)) (mocodem_187 (b + s) (2 * s))
theorem mocodem_189 (b s : Nat) : xall (fun _ a => xBm a) 6 b s codem_189 := And.intro (mocodem_157 b (2 * s)) (mocodem_188 (b + s) (2 * s))
theorem mocodem_190 (b s : Nat) : xall (fun _ a => xBm a) 1 b s codem_190 := And.intro mobm_12 mobm_524
theorem mocodem_191 (b s : Nat) : xall (fun _ a => xBm a) 1 b s codem_191 := And.intro mobm_268 mobm_780
theorem mocodem_192 (b s : Nat) : xall (fun _ a => xBm a) 2 b s codem_192 := And.intro (mocodem_190 b (2 * s)) (mocodem_191 (b + s) (2 * s))
theorem mocodem_193 (b s : Nat) : xall (fun _ a => xBm a) 1 b s codem_193 := And.intro mobm_140 mobm_652
theorem mocodem_194 (b s : Nat) : xall (fun _ a => xBm a) 1 b s codem_194 := And.intro mobm_396 mobm_908
theorem mocodem_195 (b s : Nat) : xall (fun _ a => xBm a) 2 b s codem_195 := And.intro (mocodem_193 b (2 * s)) (mocodem_194 (b + s) (2 * s))
theorem mocodem_196 (b s : Nat) : xall (fun _ a => xBm a) 3 b s codem_196 := And.intro (mocodem_192 b (2 * s)) (mocodem_195 (b + s) (2 * s))
theorem mocodem_197 (b s : Nat) : xall (fun _ a => xBm a) 1 b s codem_197 := And.intro mobm_76 mobm_588
theorem mocodem_198 (b s : Nat) : xall (fun _ a => xBm a) 1 b s codem_198 := And.intro mobm_332 mobm_844
theorem mocodem_199 (b s : Nat) : xall (fun _ a => xBm a) 2 b s codem_199 := And.intro (mocodem_197 b (2 * s)) (mocodem_198 (b + s) (2 * s))
theorem mocodem_200 (b s : Nat) : xall (fun _ a => xBm a) 1 b s codem_200 := And.intro mobm_204 mobm_716
theorem mocodem_201 (b s : Nat) : xall (fun _ a => xBm a) 1 b s codem_201 := And.intro mobm_460 mobm_no
theorem mocodem_202 (b s : Nat) : xall (fun _ a => xBm a) 2 b s codem_202 := And.intro (mocodem_200 b (2 * s)) (mocodem_201 (b + s) (2 * s))
theorem mocodem_203 (b s : Nat) : xall (fun _ a => xBm a) 3 b s codem_203 := And.intro (mocodem_199 b (2 * s)) (mocodem_202 (b + s) (2 * s))
theorem mocodem_204 (b s : Nat) : xall (fun _ a => xBm a) 4 b s codem_204 := And.intro (mocodem_196 b (2 * s)) (mocodem_203 (b + s) (2 * s))
theorem mocodem_205 (b s : Nat) : xall (fun _ a => xBm a) 1 b s codem_205 := And.intro mobm_44 mobm_556
theorem mocodem_206 (b s : Nat) : xall (fun _ a => xBm a) 1 b s codem_206 := And.intro mobm_300 mobm_812
theorem mocodem_207 (b s : Nat) : xall (fun _ a => xBm a) 2 b s codem_207 := And.intro (mocodem_205 b (2 * s)) (mocodem_206 (b + s) (2 * s))
theorem mocodem_208 (b s : Nat) : xall (fun _ a => xBm a) 1 b s codem_208 := And.intro mobm_172 mobm_684
theorem mocodem_209 (b s : Nat) : xall (fun _ a => xBm a) 1 b s codem_209 := And.intro mobm_428 mobm_940
theorem mocodem_210 (b s : Nat) : xall (fun _ a => xBm a) 2 b s codem_210 := And.intro (mocodem_208 b (2 * s)) (mocodem_209 (b + s) (2 * s))
theorem mocodem_211 (b s : Nat) : xall (fun _ a => xBm a) 3 b s codem_211 := And.intro (mocodem_207 b (2 * s)) (mocodem_210 (b + s) (2 * s))
theorem mocodem_212 (b s : Nat) : xall (fun _ a => xBm a) 1 b s codem_212 := And.intro mobm_108 mobm_620
theorem mocodem_213 (b s : Nat) : xall (fun _ a => xBm a) 1 b s codem_213 := And.intro mobm_364 mobm_876
theorem mocodem_214 (b s : Nat) : xall (fun _ a => xBm a) 2 b s codem_214 := And.intro (mocodem_212 b (2 * s)) (mocodem_213 (b + s) (2 * s))
theorem mocodem_215 (b s : Nat) : xall (fun _ a => xBm a) 1 b s codem_215 := And.intro mobm_236 mobm_748
theorem mocodem_216 (b s : Nat) : xall (fun _ a => xBm a) 1 b s codem_216 := And.intro mobm_492 mobm_no
theorem mocodem_217 (b s : Nat) : xall (fun _ a => xBm a) 2 b s codem_217 := And.intro (mocodem_215 b (2 * s)) (mocodem_216 (b + s) (2 * s))
theorem mocodem_218 (b s : Nat) : xall (fun _ a => xBm a) 3 b s codem_218 := And.intro (mocodem_214 b (2 * s)) (mocodem_217 (b + s) (2 * s))
theorem mocodem_219 (b s : Nat) : xall (fun _ a => xBm a) 4 b s codem_219 := And.intro (mocodem_211 b (2 * s)) (mocodem_218 (b + s) (2 * s))
theorem mocodem_220 (b s : Nat) : xall (fun _ a => xBm a) 5 b s codem_220 := And.intro (mocodem_204 b (2 * s)) (mocodem_219 (b + s) (2 * s))
theorem mocodem_221 (b s : Nat) : xall (fun _ a => xBm a) 1 b s codem_221 := And.intro mobm_28 mobm_540
theorem mocodem_222 (b s : Nat) : xall (fun _ a => xBm a) 1 b s codem_222 := And.intro mobm_284 mobm_796
theorem mocodem_223 (b s : Nat) : xall (fun _ a => xBm a) 2 b s codem_223 := And.intro (mocodem_221 b (2 * s)) (mocodem_222 (b + s) (2 * s))
theorem mocodem_224 (b s : Nat) : xall (fun _ a => xBm a) 1 b s codem_224 := And.intro mobm_156 mobm_668
theorem mocodem_225 (b s : Nat) : xall (fun _ a => xBm a) 1 b s codem_225 := And.intro mobm_412 mobm_924
theorem mocodem_226 (b s : Nat) : xall (fun _ a => xBm a) 2 b s codem_226 := And.intro (mocodem_224 b (2 * s)) (mocodem_225 (b + s) (2 * s))
theorem mocodem_227 (b s : Nat) : xall (fun _ a => xBm a) 3 b s codem_227 := And.intro (mocodem_223 b (2 * s)) (mocodem_226 (b + s) (2 * s))
theorem mocodem_228 (b s : Nat) : xall (fun _ a => xBm a) 1 b s codem_228 := And.intro mobm_92 mobm_604
theorem mocodem_229 (b s : Nat) : xall (fun _ a => xBm a) 1 b s codem_229 := And.intro mobm_348 mobm_860
theorem mocodem_230 (b s : Nat) : xall (fun _ a => xBm a) 2 b s codem_230 := And.intro (mocodem_228 b (2 * s)) (mocodem_229 (b + s) (2 * s))
theorem mocodem_231 (b s : Nat) : xall (fun _ a => xBm a) 1 b s codem_231 := And.intro mobm_220 mobm_732
theorem mocodem_232 (b s : Nat) : xall (fun _ a => xBm a) 1 b s codem_232 := And.intro mobm_476 mobm_no
theorem mocodem_233 (b s : Nat) : xall (fun _ a => xBm a) 2 b s codem_233 := And.intro (mocodem_231 b (2 * s)) (mocodem_232 (b + s) (2 * s))
theorem mocodem_234 (b s : Nat) : xall (fun _ a => xBm a) 3 b s codem_234 := And.intro (mocodem_230 b (2 * s)) (mocodem_233 (b + s) (2 * s))
theorem mocodem_235 (b s : Nat) : xall (fun _ a => xBm a) 4 b s codem_235 := And.intro (mocodem_227 b (2 * s)) (mocodem_234 (b + s) (2 * s))
theorem mocodem_236 (b s : Nat) : xall (fun _ a => xBm a) 1 b s codem_236 := And.intro mobm_60 mobm_572
theorem mocodem_237 (b s : Nat) : xall (fun _ a => xBm a) 1 b s codem_237 := And.intro mobm_316 mobm_828
theorem mocodem_238 (b s : Nat) : xall (fun _ a => xBm a) 2 b s codem_238 := And.intro (mocodem_236 b (2 * s)) (mocodem_237 (b + s) (2 * s))
theorem mocodem_239 (b s : Nat) : xall (fun _ a => xBm a) 1 b s codem_239 := And.intro mobm_188 mobm_700
theorem mocodem_240 (b s : Nat) : xall (fun _ a => xBm a) 1 b s codem_240 := And.intro mobm_444 mobm_956
theorem mocodem_241 (b s : Nat) : xall (fun _ a => xBm a) 2 b s codem_241 := And.intro (mocodem_239 b (2 * s)) (mocodem_240 (b + s) (2 * s))
theorem mocodem_242 (b s : Nat) : xall (fun _ a => xBm a) 3 b s codem_242 := And.intro (mocodem_238 b (2 * s)) (mocodem_241 (b + s) (2 * s))
theorem mocodem_243 (b s : Nat) : xall (fun _ a => xBm a) 1 b s codem_243 := And.intro mobm_124 mobm_636
theorem mocodem_244 (b s : Nat) : xall (fun _ a => xBm a) 1 b s codem_244 := And.intro mobm_380 mobm_892
theorem mocodem_245 (b s : Nat) : xall (fun _ a => xBm a) 2 b s codem_245 := And.intro (mocodem_243 b (2 * s)) (mocodem_244 (b + s) (2 * s))
theorem mocodem_246 (b s : Nat) : xall (fun _ a => xBm a) 1 b s codem_246 := And.intro mobm_252 mobm_764
theorem mocodem_247 (b s : Nat) : xall (fun _ a => xBm a) 1 b s codem_247 := And.intro mobm_508 mobm_no
theorem mocodem_248 (b s : Nat) : xall (fun _ a => xBm a) 2 b s codem_248 := And.intro (mocodem_246 b (2 * s)) (mocodem_247 (b + s) (2 * s))
theorem mocodem_249 (b s : Nat) : xall (fun _ a => xBm a) 3 b s codem_249 := And.intro (mocodem_245 b (2 * s)) (mocodem_248 (b + s) (2 * s))
theorem mocodem_250 (b s : Nat) : xall (fun _ a => xBm a) 4 b s codem_250 := And.intro (mocodem_242 b (2 * s)) (mocodem_249 (b + s) (2 * s))
theorem mocodem_251 (b s : Nat) : xall (fun _ a => xBm a) 5 b s codem_251 := And.intro (mocodem_235 b (2 * s)) (mocodem_250 (b + s) (2 * s))
theorem mocodem_252 (b s : Nat) : xall (fun _ a => xBm a) 6 b s codem_252 := And.intro (mocodem_220 b (2 * s)) (mocodem_251 (b + s) (2 * s))
theorem mocodem_253 (b s : Nat) : xall (fun _ a => xBm a) 7 b s codem_253 := And.intro (mocodem_189 b (2 * s)) (mocodem_252 (b + s) (2 * s))
theorem mocodem_254 (b s : Nat) : xall (fun _ a => xBm a) 8 b s codem_254 := And.intro (mocodem_126 b (2 * s)) (mocodem_253 (b + s) (2 * s))
theorem mocodem_255 (b s : Nat) : xall (fun _ a => xBm a) 1 b s codem_255 := And.intro mobm_2 mobm_514
theorem mocodem_256 (b s : Nat) : xall (fun _ a => xBm a) 1 b s codem_256 := And.intro mobm_258 mobm_770
theorem mocodem_257 (b s : Nat) : xall (fun _ a => xBm a) 2 b s codem_257 := And.intro (mocodem_255 b (2 * s)) (mocodem_256 (b + s) (2 * s))
theorem mocodem_258 (b s : Nat) : xall (fun _ a => xBm a) 1 b s codem_258 := And.intro mobm_130 mobm_642
theorem mocodem_259 (b s : Nat) : xall (fun _ a => xBm a) 1 b s codem_259 := And.intro mobm_386 mobm_898
theorem mocodem_260 (b s : Nat) : xall (fun _ a => xBm a) 2 b s codem_260 := And.intro (mocodem_258 b (2 * s)) (mocodem_259 (b + s) (2 * s))
theorem mocodem_261 (b s : Nat) : xall (fun _ a => xBm a) 3 b s codem_261 := And.intro (mocodem_257 b (2 * s)) (mocodem_260 (b + s) (2 * s))
theorem mocodem_262 (b s : Nat) : xall (fun _ a => xBm a) 1 b s codem_262 := And.intro mobm_66 mobm_578
theorem mocodem_263 (b s : Nat) : xall (fun _ a => xBm a) 1 b s codem_263 := And.intro mobm_322 mobm_834
theorem mocodem_264 (b s : Nat) : xall (fun _ a => xBm a) 2 b s codem_264 := And.intro (mocodem_262 b (2 * s)) (mocodem_263 (b + s) (2 * s))
theorem mocodem_265 (b s : Nat) : xall (fun _ a => xBm a) 1 b s codem_265 := And.intro mobm_194 mobm_706
theorem mocodem_266 (b s : Nat) : xall (fun _ a => xBm a) 1 b s codem_266 := And.intro mobm_450 mobm_no
theorem mocodem_267 (b s : Nat) : xall (fun _ a => xBm a) 2 b s codem_267 := And.intro (mocodem_265 b (2 * s)) (mocodem_266 (b + s) (2 * s))
theorem mocodem_268 (b s : Nat) : xall (fun _ a => xBm a) 3 b s codem_268 := And.intro (mocodem_264 b (2 * s)) (mocodem_267 (b + s) (2 * s))
theorem mocodem_269 (b s : Nat) : xall (fun _ a => xBm a) 4 b s codem_269 := And.intro (mocodem_261 b (2 * s)) (mocodem_268 (b + s) (2 * s))
theorem mocodem_270 (b s : Nat) : xall (fun _ a => xBm a) 1 b s codem_270 := And.intro mobm_34 mobm_546
theorem mocodem_271 (b s : Nat) : xall (fun _ a => xBm a) 1 b s codem_271 := And.intro mobm_290 mobm_802
theorem mocodem_272 (b s : Nat) : xall (fun _ a => xBm a) 2 b s codem_272 := And.intro (mocodem_270 b (2 * s)) (mocodem_271 (b + s) (2 * s))
theorem mocodem_273 (b s : Nat) : xall (fun _ a => xBm a) 1 b s codem_273 := And.intro mobm_162 mobm_674
theorem mocodem_274 (b s : Nat) : xall (fun _ a => xBm a) 1 b s codem_274 := And.intro mobm_418 mobm_930
theorem mocodem_275 (b s : Nat) : xall (fun _ a => xBm a) 2 b s codem_275 := And.intro (mocodem_273 b (2 * s)) (mocodem_274 (b + s) (2 * s))
theorem mocodem_276 (b s : Nat) : xall (fun _ a => xBm a) 3 b s codem_276 := And.intro (mocodem_272 b (2 * s)) (mocodem_275 (b + s) (2 * s))
theorem mocodem_277 (b s : Nat) : xall (fun _ a => xBm a) 1 b s codem_277 := And.intro mobm_98 mobm_610
theorem mocodem_278 (b s : Nat) : xall (fun _ a => xBm a) 1 b s codem_278 := And.intro mobm_354 mobm_866
theorem mocodem_279 (b s : Nat) : xall (fun _ a => xBm a) 2 b s codem_279 := And.intro (mocodem_277 b (2 * s)) (mocodem_278 (b + s) (2 * s))
theorem mocodem_280 (b s : Nat) : xall (fun _ a => xBm a) 1 b s codem_280 := And.intro mobm_226 mobm_738
theorem mocodem_281 (b s : Nat) : xall (fun _ a => xBm a) 1 b s codem_281 := And.intro mobm_482 mobm_no
theorem mocodem_282 (b s : Nat) : xall (fun _ a => xBm a) 2 b s codem_282 := And.intro (mocodem_280 b (2 * s)) (mocodem_281 (b + s) (2 * s))
theorem mocodem_283 (b s : Nat) : xall (fun _ a => xBm a) 3 b s codem_283 := And.intro (mocodem_279 b (2 * s)) (mocodem_282 (b + s) (2 * s))
theorem mocodem_284 (b s : Nat) : xall (fun _ a => xBm a) 4 b s codem_284 := And.intro (mocodem_276 b (2 * s)) (mocodem_283 (b + s) (2 * s))
theorem mocodem_285 (b s : Nat) : xall (fun _ a => xBm a) 5 b s codem_285 := And.intro (mocodem_269 b (2 * s)) (mocodem_284 (b + s) (2 * s))
theorem mocodem_286 (b s : Nat) : xall (fun _ a => xBm a) 1 b s codem_286 := And.intro mobm_18 mobm_530
theorem mocodem_287 (b s : Nat) : xall (fun _ a => xBm a) 1 b s codem_287 := And.intro mobm_274 mobm_786
theorem mocodem_288 (b s : Nat) : xall (fun _ a => xBm a) 2 b s codem_288 := And.intro (mocodem_286 b (2 * s)) (mocodem_287 (b + s) (2 * s))
theorem mocodem_289 (b s : Nat) : xall (fun _ a => xBm a) 1 b s codem_289 := And.intro mobm_146 mobm_658
theorem mocodem_290 (b s : Nat) : xall (fun _ a => xBm a) 1 b s codem_290 := And.intro mobm_402 mobm_914
theorem mocodem_291 (b s : Nat) : xall (fun _ a => xBm a) 2 b s codem_291 := And.intro (mocodem_289 b (2 * s)) (mocodem_290 (b + s) (2 * s))
theorem mocodem_292 (b s : Nat) : xall (fun _ a => xBm a) 3 b s codem_292 := And.intro (mocodem_288 b (2 * s)) (mocodem_291 (b + s) (2 * s))
theorem mocodem_293 (b s : Nat) : xall (fun _ a => xBm a) 1 b s codem_293 := And.intro mobm_82 mobm_594
theorem mocodem_294 (b s : Nat) : xall (fun _ a => xBm a) 1 b s codem_294 := And.intro mobm_338 mobm_850
theorem mocodem_295 (b s : Nat) : xall (fun _ a => xBm a) 2 b s codem_295 := And.intro (mocodem_293 b (2 * s)) (mocodem_294 (b + s) (2 * s))
theorem mocodem_296 (b s : Nat) : xall (fun _ a => xBm a) 1 b s codem_296 := And.intro mobm_210 mobm_722
theorem mocodem_297 (b s : Nat) : xall (fun _ a => xBm a) 1 b s codem_297 := And.intro mobm_466 mobm_no
theorem mocodem_298 (b s : Nat) : xall (fun _ a => xBm a) 2 b s codem_298 := And.intro (mocodem_296 b (2 * s)) (mocodem_297 (b + s) (2 * s))
theorem mocodem_299 (b s : Nat) : xall (fun _ a => xBm a) 3 b s codem_299 := And.intro (mocodem_295 b (2 * s)) (mocodem_298 (b + s) (2 * s))
theorem mocodem_300 (b s : Nat) : xall (fun _ a => xBm a) 4 b s codem_300 := And.intro (mocodem_292 b (2 * s)) (mocodem_299 (b + s) (2 * s))
theorem mocodem_301 (b s : Nat) : xall (fun _ a => xBm a) 1 b s codem_301 := And.intro mobm_50 mobm_562
theorem mocodem_302 (b s : Nat) : xall (fun _ a => xBm a) 1 b s codem_302 := And.intro mobm_306 mobm_818
theorem mocodem_303 (b s : Nat) : xall (fun _ a => xBm a) 2 b s codem_303 := And.intro (mocodem_301 b (2 * s)) (mocodem_302 (b + s) (2 * s))
theorem mocodem_304 (b s : Nat) : xall (fun _ a => xBm a) 1 b s codem_304 := And.intro mobm_178 mobm_690
theorem mocodem_305 (b s : Nat) : xall (fun _ a => xBm a) 1 b s codem_305 := And.intro mobm_434 mobm_946
theorem mocodem_306 (b s : Nat) : xall (fun _ a => xBm a) 2 b s codem_306 := And.intro (mocodem_304 b (2 * s)) (mocodem_305 (b + s) (2 * s))
theorem mocodem_307 (b s : Nat) : xall (fun _ a => xBm a) 3 b s codem_307 := And.intro (mocodem_303 b (2 * s)) (mocodem_306 (b + s) (2 * s))
theorem mocodem_308 (b s : Nat) : xall (fun _ a => xBm a) 1 b s codem_308 := And.intro mobm_114 mobm_626
theorem mocodem_309 (b s : Nat) : xall (fun _ a => xBm a) 1 b s codem_309 := And.intro mobm_370 mobm_882
theorem mocodem_310 (b s : Nat) : xall (fun _ a => xBm a) 2 b s codem_310 := And.intro (mocodem_308 b (2 * s)) (mocodem_309 (b + s) (2 * s))
theorem mocodem_311 (b s : Nat) : xall (fun _ a => xBm a) 1 b s codem_311 := And.intro mobm_242 mobm_754
theorem mocodem_312 (b s : Nat) : xall (fun _ a => xBm a) 1 b s codem_312 := And.intro mobm_498 mobm_no
theorem mocodem_313 (b s : Nat) : xall (fun _ a => xBm a) 2 b s codem_313 := And.intro (mocodem_311 b (2 * s)) (mocodem_312 (b + s) (2 * s))
theorem mocodem_314 (b s : Nat) : xall (fun _ a => xBm a) 3 b s codem_314 := And.intro (mocodem_310 b (2 * s)) (mocodem_313 (b + s) (2 * s))
theorem mocodem_315 (b s : Nat) : xall (fun _ a => xBm a) 4 b s codem_315 := And.intro (mocodem_307 b (2 * s)) (mocodem_314 (b + s) (2 * s))
theorem mocodem_316 (b s : Nat) : xall (fun _ a => xBm a) 5 b s codem_316 := And.intro (mocodem_300 b (2 * s)) (mocodem_315 (b + s) (2 * s))
theorem mocodem_317 (b s : Nat) : xall (fun _ a => xBm a) 6 b s codem_317 := And.intro (mocodem_285 b (2 * s)) (mocodem_316 (b + s) (2 * s))
theorem mocodem_318 (b s : Nat) : xall (fun _ a => xBm a) 1 b s codem_318 := And.intro mobm_10 mobm_522
theorem mocodem_319 (b s : Nat) : xall (fun _ a => xBm a) 1 b s codem_319 := And.intro mobm_266 mobm_778
theorem mocodem_320 (b s : Nat) : xall (fun _ a => xBm a) 2 b s codem_320 := And.intro (mocodem_318 b (2 * s)) (mocodem_319 (b + s) (2 * s))
theorem mocodem_321 (b s : Nat) : xall (fun _ a => xBm a) 1 b s codem_321 := And.intro mobm_138 mobm_650
theorem mocodem_322 (b s : Nat) : xall (fun _ a => xBm a) 1 b s codem_322 := And.intro mobm_394 mobm_906
theorem mocodem_323 (b s : Nat) : xall (fun _ a => xBm a) 2 b s codem_323 := And.intro (mocodem_321 b (2 * s)) (mocodem_322 (b + s) (2 * s))
theorem mocodem_324 (b s : Nat) : xall (fun _ a => xBm a) 3 b s codem_324 := And.intro (mocodem_320 b (2 * s)) (mocodem_323 (b + s) (2 * s))
theorem mocodem_325 (b s : Nat) : xall (fun _ a => xBm a) 1 b s codem_325 := And.intro mobm_74 mobm_586
theorem mocodem_326 (b s : Nat) : xall (fun _ a => xBm a) 1 b s codem_326 := And.intro mobm_330 mobm_842
theorem mocodem_327 (b s : Nat) : xall (fun _ a => xBm a) 2 b s codem_327 := And.intro (mocodem_325 b (2 * s)) (mocodem_326 (b + s) (2 * s))
theorem mocodem_328 (b s : Nat) : xall (fun _ a => xBm a) 1 b s codem_328 := And.intro mobm_202 mobm_714
theorem mocodem_329 (b s : Nat) : xall (fun _ a => xBm a) 1 b s codem_329 := And.intro mobm_458 mobm_no
theorem mocodem_330 (b s : Nat) : xall (fun _ a => xBm a) 2 b s codem_330 := And.intro (mocodem_328 b (2 * s)) (mocodem_329 (b + s) (2 * s))
theorem mocodem_331 (b s : Nat) : xall (fun _ a => xBm a) 3 b s codem_331 := And.intro (mocodem_327 b (2 * s)) (mocodem_330 (b + s) (2 * s))
theorem mocodem_332 (b s : Nat) : xall (fun _ a => xBm a) 4 b s codem_332 := And.intro (mocodem_324 b (2 * s)) (mocodem_331 (b + s) (2 * s))
theorem mocodem_333 (b s : Nat) : xall (fun _ a => xBm a) 1 b s codem_333 := And.intro mobm_42 mobm_554
theorem mocodem_334 (b s : Nat) : xall (fun _ a => xBm a) 1 b s codem_334 := And.intro mobm_298 mobm_810
theorem mocodem_335 (b s : Nat) : xall (fun _ a => xBm a) 2 b s codem_335 := And.intro (mocodem_333 b (2 * s)) (mocodem_334 (b + s) (2 * s))
theorem mocodem_336 (b s : Nat) : xall (fun _ a => xBm a) 1 b s codem_336 := And.intro mobm_170 mobm_682
theorem mocodem_337 (b s : Nat) : xall (fun _ a => xBm a) 1 b s codem_337 := And.intro mobm_426 mobm_938
theorem mocodem_338 (b s : Nat) : xall (fun _ a => xBm a) 2 b s codem_338 := And.intro (mocodem_336 b (2 * s)) (mocodem_337 (b + s) (2 * s))
theorem mocodem_339 (b s : Nat) : xall (fun _ a => xBm a) 3 b s codem_339 := And.intro (mocodem_335 b (2 * s)) (mocodem_338 (b + s) (2 * s))
theorem mocodem_340 (b s : Nat) : xall (fun _ a => xBm a) 1 b s codem_340 := And.intro mobm_106 mobm_618
theorem mocodem_341 (b s : Nat) : xall (fun _ a => xBm a) 1 b s codem_341 := And.intro mobm_362 mobm_874
theorem mocodem_342 (b s : Nat) : xall (fun _ a => xBm a) 2 b s codem_342 := And.intro (mocodem_340 b (2 * s)) (mocodem_341 (b + s) (2 * s))
theorem mocodem_343 (b s : Nat) : xall (fun _ a => xBm a) 1 b s codem_343 := And.intro mobm_234 mobm_746
theorem mocodem_344 (b s : Nat) : xall (fun _ a => xBm a) 1 b s codem_344 := And.intro mobm_490 mobm_no
theorem mocodem_345 (b s : Nat) : xall (fun _ a => xBm a) 2 b s codem_345 := And.intro (mocodem_343 b (2 * s)) (mocodem_344 (b + s) (2 * s))
theorem mocodem_346 (b s : Nat) : xall (fun _ a => xBm a) 3 b s codem_346 := And.intro (mocodem_342 b (2 * s)) (mocodem_345 (b + s) (2 * s))
theorem mocodem_347 (b s : Nat) : xall (fun _ a => xBm a) 4 b s codem_347 := And.intro (mocodem_339 b (2 * s)) (mocodem_346 (b + s) (2 * s))
theorem mocodem_348 (b s : Nat) : xall (fun _ a => xBm a) 5 b s codem_348 := And.intro (mocodem_332 b (2 * s)) (mocodem_347 (b + s) (2 * s))
theorem mocodem_349 (b s : Nat) : xall (fun _ a => xBm a) 1 b s codem_349 := And.intro mobm_26 mobm_538
theorem mocodem_350 (b s : Nat) : xall (fun _ a => xBm a) 1 b s codem_350 := And.intro mobm_282 mobm_794
theorem mocodem_351 (b s : Nat) : xall (fun _ a => xBm a) 2 b s codem_351 := And.intro (mocodem_349 b (2 * s)) (mocodem_350 (b + s) (2 * s))
theorem mocodem_352 (b s : Nat) : xall (fun _ a => xBm a) 1 b s codem_352 := And.intro mobm_154 mobm_666
theorem mocodem_353 (b s : Nat) : xall (fun _ a => xBm a) 1 b s codem_353 := And.intro mobm_410 mobm_922
theorem mocodem_354 (b s : Nat) : xall (fun _ a => xBm a) 2 b s codem_354 := And.intro (mocodem_352 b (2 * s)) (mocodem_353 (b + s) (2 * s))
theorem mocodem_355 (b s : Nat) : xall (fun _ a => xBm a) 3 b s codem_355 := And.intro (mocodem_351 b (2 * s)) (mocodem_354 (b + s) (2 * s))
theorem mocodem_356 (b s : Nat) : xall (fun _ a => xBm a) 1 b s codem_356 := And.intro mobm_90 mobm_602
theorem mocodem_357 (b s : Nat) : xall (fun _ a => xBm a) 1 b s codem_357 := And.intro mobm_346 mobm_858
theorem mocodem_358 (b s : Nat) : xall (fun _ a => xBm a) 2 b s codem_358 := And.intro (mocodem_356 b (2 * s)) (mocodem_357 (b + s) (2 * s))
theorem mocodem_359 (b s : Nat) : xall (fun _ a => xBm a) 1 b s codem_359 := And.intro mobm_218 mobm_730
theorem mocodem_360 (b s : Nat) : xall (fun _ a => xBm a) 1 b s codem_360 := And.intro mobm_474 mobm_no
theorem mocodem_361 (b s : Nat) : xall (fun _ a => xBm a) 2 b s codem_361 := And.intro (mocodem_359 b (2 * s)) (mocodem_360 (b + s) (2 * s))
theorem mocodem_362 (b s : Nat) : xall (fun _ a => xBm a) 3 b s codem_362 := And.intro (mocodem_358 b (2 * s)) (mocodem_361 (b + s) (2 * s))
theorem mocodem_363 (b s : Nat) : xall (fun _ a => xBm a) 4 b s codem_363 := And.intro (mocodem_355 b (2 * s)) (mocodem_362 (b + s) (2 * s))
theorem mocodem_364 (b s : Nat) : xall (fun _ a => xBm a) 1 b s codem_364 := And.intro mobm_58 mobm_570
theorem mocodem_365 (b s : Nat) : xall (fun _ a => xBm a) 1 b s codem_365 := And.intro mobm_314 mobm_826
theorem mocodem_366 (b s : Nat) : xall (fun _ a => xBm a) 2 b s codem_366 := And.intro (mocodem_364 b (2 * s)) (mocodem_365 (b + s) (2 * s))
theorem mocodem_367 (b s : Nat) : xall (fun _ a => xBm a) 1 b s codem_367 := And.intro mobm_186 mobm_698
theorem mocodem_368 (b s : Nat) : xall (fun _ a => xBm a) 1 b s codem_368 := And.intro mobm_442 mobm_954
theorem mocodem_369 (b s : Nat) : xall (fun _ a => xBm a) 2 b s codem_369 := And.intro (mocodem_367 b (2 * s)) (mocodem_368 (b + s) (2 * s))
theorem mocodem_370 (b s : Nat) : xall (fun _ a => xBm a) 3 b s codem_370 := And.intro (mocodem_366 b (2 * s)) (mocodem_369 (b + s) (2 * s))
theorem mocodem_371 (b s : Nat) : xall (fun _ a => xBm a) 1 b s codem_371 := And.intro mobm_122 mobm_634
theorem mocodem_372 (b s : Nat) : xall (fun _ a => xBm a) 1 b s codem_372 := And.intro mobm_378 mobm_890
theorem mocodem_373 (b s : Nat) : xall (fun _ a => xBm a) 2 b s codem_373 := And.intro (mocodem_371 b (2 * s)) (mocodem_372 (b + s) (2 * s))
theorem mocodem_374 (b s : Nat) : xall (fun _ a => xBm a) 1 b s codem_374 := And.intro mobm_250 mobm_762
theorem mocodem_375 (b s : Nat) : xall (fun _ a => xBm a) 1 b s codem_375 := And.intro mobm_506 mobm_no
theorem mocodem_376 (b s : Nat) : xall (fun _ a => xBm a) 2 b s codem_376 := And.intro (mocodem_374 b (2 * s)) (mocodem_375 (b + s) (2 * s))
theorem mocodem_377 (b s : Nat) : xall (fun _ a => xBm a) 3 b s codem_377 := And.intro (mocodem_373 b (2 * s)) (mocodem_376 (b + s) (2 * s))
theorem mocodem_378 (b s : Nat) : xall (fun _ a => xBm a) 4 b s codem_378 := And.intro (mocodem_370 b (2 * s)) (mocodem_377 (b + s) (2 * s))
theorem mocodem_379 (b s : Nat) : xall (fun _ a => xBm a) 5 b s codem_379 := And.intro (mocodem_363 b (2 * s)) (mocodem_378 (b + s) (2 * s))
theorem mocodem_380 (b s : Nat) : xall (fun _ a => xBm a) 6 b s codem_380 := And.intro (mocodem_348 b (2 * s)) (mocodem_379 (b + s) (2 * s))
theorem mocodem_381 (b s : Nat) : xall (fun _ a => xBm a) 7 b s codem_381 := And.intro (mocodem_317 b (2 * s)) (mocodem_380 (b + s) (2 * s))
theorem mocodem_382 (b s : Nat) : xall (fun _ a => xBm a) 1 b s codem_382 := And.intro mobm_6 mobm_518
theorem mocodem_383 (b s : Nat) : xall (fun _ a => xBm a) 1 b s codem_383 := And.intro mobm_262 mobm_774
theorem mocodem_384 (b s : Nat) : xall (fun _ a => xBm a) 2 b s codem_384 := And.intro (mocodem_382 b (2 * s)) (mocodem_383 (b + s) (2 * s))
theorem mocodem_385 (b s : Nat) : xall (fun _ a => xBm a) 1 b s codem_385 := And.intro mobm_134 mobm_646
theorem mocodem_386 (b s : Nat) : xall (fun _ a => xBm a) 1 b s codem_386 := And.intro mobm_390 mobm_902
theorem mocodem_387 (b s : Nat) : xall (fun _ a => xBm a) 2 b s codem_387 := And.intro (mocodem_385 b (2 * s)) (mocodem_386 (b + s) (2 * s))
theorem mocodem_388 (b s : Nat) : xall (fun _ a => xBm a) 3 b s codem_388 := And.intro (mocodem_384 b (2 * s)) (mocodem_387 (b + s) (2 * s))
theorem mocodem_389 (b s : Nat) : xall (fun _ a => xBm a) 1 b s codem_389 := And.intro mobm_70 mobm_582
theorem mocodem_390 (b s : Nat) : xall (fun _ a => xBm a) 1 b s codem_390 := And.intro mobm_326 mobm_838
theorem mocodem_391 (b s : Nat) : xall (fun _ a => xBm a) 2 b s codem_391 := And.intro (mocodem_389 b (2 * s)) (mocodem_390 (b + s) (2 * s))
theorem mocodem_392 (b s : Nat) : xall (fun _ a => xBm a) 1 b s codem_392 := And.intro mobm_198 mobm_710
theorem mocodem_393 (b s : Nat) : xall (fun _ a => xBm a) 1 b s codem_393 := And.intro mobm_454 mobm_no
theorem mocodem_394 (b s : Nat) : xall (fun _ a => xBm a) 2 b s codem_394 := And.intro (mocodem_392 b (2 * s)) (mocodem_393 (b + s) (2 * s))
theorem mocodem_395 (b s : Nat) : xall (fun _ a => xBm a) 3 b s codem_395 := And.intro (mocodem_391 b (2 * s)) (mocodem_394 (b + s) (2 * s))
theorem mocodem_396 (b s : Nat) : xall (fun _ a => xBm a) 4 b s codem_396 := And.intro (mocodem_388 b (2 * s)) (mocodem_395 (b + s) (2 * s))
theorem mocodem_397 (b s : Nat) : xall (fun _ a => xBm a) 1 b s codem_397 := And.intro mobm_38 mobm_550
theorem mocodem_398 (b s : Nat) : xall (fun _ a => xBm a) 1 b s codem_398 := And.intro mobm_294 mobm_806
theorem mocodem_399 (b s : Nat) : xall (fun _ a => xBm a) 2 b s codem_399 := And.intro (mocodem_397 b (2 * s)) (mocodem_398 (b + s) (2 * s))
theorem mocodem_400 (b s : Nat) : xall (fun _ a => xBm a) 1 b s codem_400 := And.intro mobm_166 mobm_678
theorem mocodem_401 (b s : Nat) : xall (fun _ a => xBm a) 1 b s codem_401 := And.intro mobm_422 mobm_934
theorem mocodem_402 (b s : Nat) : xall (fun _ a => xBm a) 2 b s codem_402 := And.intro (mocodem_400 b (2 * s)) (mocodem_401 (b + s) (2 * s))
theorem mocodem_403 (b s : Nat) : xall (fun _ a => xBm a) 3 b s codem_403 := And.intro (mocodem_399 b (2 * s)) (mocodem_402 (b + s) (2 * s))
theorem mocodem_404 (b s : Nat) : xall (fun _ a => xBm a) 1 b s codem_404 := And.intro mobm_102 mobm_614
theorem mocodem_405 (b s : Nat) : xall (fun _ a => xBm a) 1 b s codem_405 := And.intro mobm_358 mobm_870
theorem mocodem_406 (b s : Nat) : xall (fun _ a => xBm a) 2 b s codem_406 := And.intro (mocodem_404 b (2 * s)) (mocodem_405 (b + s) (2 * s))
theorem mocodem_407 (b s : Nat) : xall (fun _ a => xBm a) 1 b s codem_407 := And.intro mobm_230 mobm_742
theorem mocodem_408 (b s : Nat) : xall (fun _ a => xBm a) 1 b s codem_408 := And.intro mobm_486 mobm_no
theorem mocodem_409 (b s : Nat) : xall (fun _ a => xBm a) 2 b s codem_409 := And.intro (mocodem_407 b (2 * s)) (mocodem_408 (b + s) (2 * s))
theorem mocodem_410 (b s : Nat) : xall (fun _ a => xBm a) 3 b s codem_410 := And.intro (mocodem_406 b (2 * s)) (mocodem_409 (b + s) (2 * s))
theorem mocodem_411 (b s : Nat) : xall (fun _ a => xBm a) 4 b s codem_411 := And.intro (mocodem_403 b (2 * s)) (mocodem_410 (b + s) (2 * s))
theorem mocodem_412 (b s : Nat) : xall (fun _ a => xBm a) 5 b s codem_412 := And.intro (mocodem_396 b (2 * s)) (mocodem_411 (b + s) (2 * s))
theorem mocodem_413 (b s : Nat) : xall (fun _ a => xBm a) 1 b s codem_413 := And.intro mobm_22 mobm_534
theorem mocodem_414 (b s : Nat) : xall (fun _ a => xBm a) 1 b s codem_414 := And.intro mobm_278 mobm_790
theorem mocodem_415 (b s : Nat) : xall (fun _ a => xBm a) 2 b s codem_415 := And.intro (mocodem_413 b (2 * s)) (mocodem_414 (b + s) (2 * s))
theorem mocodem_416 (b s : Nat) : xall (fun _ a => xBm a) 1 b s codem_416 := And.intro mobm_150 mobm_662
theorem mocodem_417 (b s : Nat) : xall (fun _ a => xBm a) 1 b s codem_417 := And.intro mobm_406 mobm_918
theorem mocodem_418 (b s : Nat) : xall (fun _ a => xBm a) 2 b s codem_418 := And.intro (mocodem_416 b (2 * s)) (mocodem_417 (b + s) (2 * s))
theorem mocodem_419 (b s : Nat) : xall (fun _ a => xBm a) 3 b s codem_419 := And.intro (mocodem_415 b (2 * s)) (mocodem_418 (b + s) (2 * s))
theorem mocodem_420 (b s : Nat) : xall (fun _ a => xBm a) 1 b s codem_420 := And.intro mobm_86 mobm_598
theorem mocodem_421 (b s : Nat) : xall (fun _ a => xBm a) 1 b s codem_421 := And.intro mobm_342 mobm_854
theorem mocodem_422 (b s : Nat) : xall (fun _ a => xBm a) 2 b s codem_422 := And.intro (mocodem_420 b (2 * s)) (mocodem_421 (b + s) (2 * s))
theorem mocodem_423 (b s : Nat) : xall (fun _ a => xBm a) 1 b s codem_423 := And.intro mobm_214 mobm_726
theorem mocodem_424 (b s : Nat) : xall (fun _ a => xBm a) 1 b s codem_424 := And.intro mobm_470 mobm_no
theorem mocodem_425 (b s : Nat) : xall (fun _ a => xBm a) 2 b s codem_425 := And.intro (mocodem_423 b (2 * s)) (mocodem_424 (b + s) (2 * s))
theorem mocodem_426 (b s : Nat) : xall (fun _ a => xBm a) 3 b s codem_426 := And.intro (mocodem_422 b (2 * s)) (mocodem_425 (b + s) (2 * s))
theorem mocodem_427 (b s : Nat) : xall (fun _ a => xBm a) 4 b s codem_427 := And.intro (mocodem_419 b (2 * s)) (mocodem_426 (b + s) (2 * s))
theorem mocodem_428 (b s : Nat) : xall (fun _ a => xBm a) 1 b s codem_428 := And.intro mobm_54 mobm_566
theorem mocodem_429 (b s : Nat) : xall (fun _ a => xBm a) 1 b s codem_429 := And.intro mobm_310 mobm_822
theorem mocodem_430 (b s : Nat) : xall (fun _ a => xBm a) 2 b s codem_430 := And.intro (mocodem_428 b (2 * s)) (mocodem_429 (b + s) (2 * s))
theorem mocodem_431 (b s : Nat) : xall (fun _ a => xBm a) 1 b s codem_431 := And.intro mobm_182 mobm_694
theorem mocodem_432 (b s : Nat) : xall (fun _ a => xBm a) 1 b s codem_432 := And.intro mobm_438 mobm_950
theorem mocodem_433 (b s : Nat) : xall (fun _ a => xBm a) 2 b s codem_433 := And.intro (mocodem_431 b (2 * s)) (mocodem_432 (b + s) (2 * s))
theorem mocodem_434 (b s : Nat) : xall (fun _ a => xBm a) 3 b s codem_434 := And.intro (mocodem_430 b (2 * s)) (mocodem_433 (b + s) (2 * s))
theorem mocodem_435 (b s : Nat) : xall (fun _ a => xBm a) 1 b s codem_435 := And.intro mobm_118 mobm_630
theorem mocodem_436 (b s : Nat) : xall (fun _ a => xBm a) 1 b s codem_436 := And.intro mobm_374 mobm_886
theorem mocodem_437 (b s : Nat) : xall (fun _ a => xBm a) 2 b s codem_437 := And.intro (mocodem_435 b (2 * s)) (mocodem_436 (b + s) (2 * s))
theorem mocodem_438 (b s : Nat) : xall (fun _ a => xBm a) 1 b s codem_438 := And.intro mobm_246 mobm_758
theorem mocodem_439 (b s : Nat) : xall (fun _ a => xBm a) 1 b s codem_439 := And.intro mobm_502 mobm_no
theorem mocodem_440 (b s : Nat) : xall (fun _ a => xBm a) 2 b s codem_440 := And.intro (mocodem_438 b (2 * s)) (mocodem_439 (b + s) (2 * s))
theorem mocodem_441 (b s : Nat) : xall (fun _ a => xBm a) 3 b s codem_441 := And.intro (mocodem_437 b (2 * s)) (mocodem_440 (b + s) (2 * s))
theorem mocodem_442 (b s : Nat) : xall (fun _ a => xBm a) 4 b s codem_442 := And.intro (mocodem_434 b (2 * s)) (mocodem_441 (b + s) (2 * s))
theorem mocodem_443 (b s : Nat) : xall (fun _ a => xBm a) 5 b s codem_443 := And.intro (mocodem_427 b (2 * s)) (mocodem_442 (b + s) (2 * s))
theorem mocodem_444 (b s : Nat) : xall (fun _ a => xBm a) 6 b s codem_444 := And.intro (mocodem_412 b (2 * s)) (mocodem_443 (b + s) (2 * s))
theorem mocodem_445 (b s : Nat) : xall (fun _ a => xBm a) 1 b s codem_445 := And.intro mobm_14 mobm_526
theorem mocodem_446 (b s : Nat) : xall (fun _ a => xBm a) 1 b s codem_446 := And.intro mobm_270 mobm_782
theorem mocodem_447 (b s : Nat) : xall (fun _ a => xBm a) 2 b s codem_447 := And.intro (mocodem_445 b (2 * s)) (mocodem_446 (b + s) (2 * s))
theorem mocodem_448 (b s : Nat) : xall (fun _ a => xBm a) 1 b s codem_448 := And.intro mobm_142 mobm_654
theorem mocodem_449 (b s : Nat) : xall (fun _ a => xBm a) 1 b s codem_449 := And.intro mobm_398 mobm_910
theorem mocodem_450 (b s : Nat) : xall (fun _ a => xBm a) 2 b s codem_450 := And.intro (mocodem_448 b (2 * s)) (mocodem_449 (b + s) (2 * s))
theorem mocodem_451 (b s : Nat) : xall (fun _ a => xBm a) 3 b s codem_451 := And.intro (mocodem_447 b (2 * s)) (mocodem_450 (b + s) (2 * s))
theorem mocodem_452 (b s : Nat) : xall (fun _ a => xBm a) 1 b s codem_452 := And.intro mobm_78 mobm_590
theorem mocodem_453 (b s : Nat) : xall (fun _ a => xBm a) 1 b s codem_453 := And.intro mobm_334 mobm_846
theorem mocodem_454 (b s : Nat) : xall (fun _ a => xBm a) 2 b s codem_454 := And.intro (mocodem_452 b (2 * s)) (mocodem_453 (b + s) (2 * s))
theorem mocodem_455 (b s : Nat) : xall (fun _ a => xBm a) 1 b s codem_455 := And.intro mobm_206 mobm_718
theorem mocodem_456 (b s : Nat) : xall (fun _ a => xBm a) 1 b s codem_456 := And.intro mobm_462 mobm_no
theorem mocodem_457 (b s : Nat) : xall (fun _ a => xBm a) 2 b s codem_457 := And.intro (mocodem_455 b (2 * s)) (mocodem_456 (b + s) (2 * s))
theorem mocodem_458 (b s : Nat) : xall (fun _ a => xBm a) 3 b s codem_458 := And.intro (mocodem_454 b (2 * s)) (mocodem_457 (b + s) (2 * s))
theorem mocodem_459 (b s : Nat) : xall (fun _ a => xBm a) 4 b s codem_459 := And.intro (mocodem_451 b (2 * s)) (mocodem_458 (b + s) (2 * s))
theorem mocodem_460 (b s : Nat) : xall (fun _ a => xBm a) 1 b s codem_460 := And.intro mobm_46 mobm_558
theorem mocodem_461 (b s : Nat) : xall (fun _ a => xBm a) 1 b s codem_461 := And.intro mobm_302 mobm_814
theorem mocodem_462 (b s : Nat) : xall (fun _ a => xBm a) 2 b s codem_462 := And.intro (mocodem_460 b (2 * s)) (mocodem_461 (b + s) (2 * s))
theorem mocodem_463 (b s : Nat) : xall (fun _ a => xBm a) 1 b s codem_463 := And.intro mobm_174 mobm_686
theorem mocodem_464 (b s : Nat) : xall (fun _ a => xBm a) 1 b s codem_464 := And.intro mobm_430 mobm_942
theorem mocodem_465 (b s : Nat) : xall (fun _ a => xBm a) 2 b s codem_465 := And.intro (mocodem_463 b (2 * s)) (mocodem_464 (b + s) (2 * s))
theorem mocodem_466 (b s : Nat) : xall (fun _ a => xBm a) 3 b s codem_466 := And.intro (mocodem_462 b (2 * s)) (mocodem_465 (b + s) (2 * s))
theorem mocodem_467 (b s : Nat) : xall (fun _ a => xBm a) 1 b s codem_467 := And.intro mobm_110 mobm_622
theorem mocodem_468 (b s : Nat) : xall (fun _ a => xBm a) 1 b s codem_468 := And.intro mobm_366 mobm_878
theorem mocodem_469 (b s : Nat) : xall (fun _ a => xBm a) 2 b s codem_469 := And.intro (mocodem_467 b (2 * s)) (mocodem_468 (b + s) (2 * s))
theorem mocodem_470 (b s : Nat) : xall (fun _ a => xBm a) 1 b s codem_470 := And.intro mobm_238 mobm_750
theorem mocodem_471 (b s : Nat) : xall (fun _ a => xBm a) 1 b s codem_471 := And.intro mobm_494 mobm_no
theorem mocodem_472 (b s : Nat) : xall (fun _ a => xBm a) 2 b s codem_472 := And.intro (mocodem_470 b (2 * s)) (mocodem_471 (b + s) (2 * s))
theorem mocodem_473 (b s : Nat) : xall (fun _ a => xBm a) 3 b s codem_473 := And.intro (mocodem_469 b (2 * s)) (mocodem_472 (b + s) (2 * s))
theorem mocodem_474 (b s : Nat) : xall (fun _ a => xBm a) 4 b s codem_474 := And.intro (mocodem_466 b (2 * s)) (mocodem_473 (b + s) (2 * s))
theorem mocodem_475 (b s : Nat) : xall (fun _ a => xBm a) 5 b s codem_475 := And.intro (mocodem_459 b (2 * s)) (mocodem_474 (b + s) (2 * s))
theorem mocodem_476 (b s : Nat) : xall (fun _ a => xBm a) 1 b s codem_476 := And.intro mobm_30 mobm_542
theorem mocodem_477 (b s : Nat) : xall (fun _ a => xBm a) 1 b s codem_477 := And.intro mobm_286 mobm_798
theorem mocodem_478 (b s : Nat) : xall (fun _ a => xBm a) 2 b s codem_478 := And.intro (mocodem_476 b (2 * s)) (mocodem_477 (b + s) (2 * s))
theorem mocodem_479 (b s : Nat) : xall (fun _ a => xBm a) 1 b s codem_479 := And.intro mobm_158 mobm_670
theorem mocodem_480 (b s : Nat) : xall (fun _ a => xBm a) 1 b s codem_480 := And.intro mobm_414 mobm_926
theorem mocodem_481 (b s : Nat) : xall (fun _ a => xBm a) 2 b s codem_481 := And.intro (mocodem_479 b (2 * s)) (mocodem_480 (b + s) (2 * s))
theorem mocodem_482 (b s : Nat) : xall (fun _ a => xBm a) 3 b s codem_482 := And.intro (mocodem_478 b (2 * s)) (mocodem_481 (b + s) (2 * s))
theorem mocodem_483 (b s : Nat) : xall (fun _ a => xBm a) 1 b s codem_483 := And.intro mobm_94 mobm_606
theorem mocodem_484 (b s : Nat) : xall (fun _ a => xBm a) 1 b s codem_484 := And.intro mobm_350 mobm_862
theorem mocodem_485 (b s : Nat) : xall (fun _ a => xBm a) 2 b s codem_485 := And.intro (mocodem_483 b (2 * s)) (mocodem_484 (b + s) (2 * s))
theorem mocodem_486 (b s : Nat) : xall (fun _ a => xBm a) 1 b s codem_486 := And.intro mobm_222 mobm_734
theorem mocodem_487 (b s : Nat) : xall (fun _ a => xBm a) 1 b s codem_487 := And.intro mobm_478 mobm_no
theorem mocodem_488 (b s : Nat) : xall (fun _ a => xBm a) 2 b s codem_488 := And.intro (mocodem_486 b (2 * s)) (mocodem_487 (b + s) (2 * s))
theorem mocodem_489 (b s : Nat) : xall (fun _ a => xBm a) 3 b s codem_489 := And.intro (mocodem_485 b (2 * s)) (mocodem_488 (b + s) (2 * s))
theorem mocodem_490 (b s : Nat) : xall (fun _ a => xBm a) 4 b s codem_490 := And.intro (mocodem_482 b (2 * s)) (mocodem_489 (b + s) (2 * s))
theorem mocodem_491 (b s : Nat) : xall (fun _ a => xBm a) 1 b s codem_491 := And.intro mobm_62 mobm_574
theorem mocodem_492 (b s : Nat) : xall (fun _ a => xBm a) 1 b s codem_492 := And.intro mobm_318 mobm_830
theorem mocodem_493 (b s : Nat) : xall (fun _ a => xBm a) 2 b s codem_493 := And.intro (mocodem_491 b (2 * s)) (mocodem_492 (b + s) (2 * s))
theorem mocodem_494 (b s : Nat) : xall (fun _ a => xBm a) 1 b s codem_494 := And.intro mobm_190 mobm_702
theorem mocodem_495 (b s : Nat) : xall (fun _ a => xBm a) 1 b s codem_495 := And.intro mobm_446 mobm_958
theorem mocodem_496 (b s : Nat) : xall (fun _ a => xBm a) 2 b s codem_496 := And.intro (mocodem_494 b (2 * s)) (mocodem_495 (b + s) (2 * s))
theorem mocodem_497 (b s : Nat) : xall (fun _ a => xBm a) 3 b s codem_497 := And.intro (mocodem_493 b (2 * s)) (mocodem_496 (b + s) (2 * s))
theorem mocodem_498 (b s : Nat) : xall (fun _ a => xBm a) 1 b s codem_498 := And.intro mobm_126 mobm_638
theorem mocodem_499 (b s : Nat) : xall (fun _ a => xBm a) 1 b s codem_499 := And.intro mobm_382 mobm_894
theorem mocodem_500 (b s : Nat) : xall (fun _ a => xBm a) 2 b s codem_500 := And.intro (mocodem_498 b (2 * s)) (mocodem_499 (b + s) (2 * s))
theorem mocodem_501 (b s : Nat) : xall (fun _ a => xBm a) 1 b s codem_501 := And.intro mobm_254 mobm_766
theorem mocodem_502 (b s : Nat) : xall (fun _ a => xBm a) 1 b s codem_502 := And.intro mobm_510 mobm_no
theorem mocodem_503 (b s : Nat) : xall (fun _ a => xBm a) 2 b s codem_503 := And.intro (mocodem_501 b (2 * s)) (mocodem_502 (b + s) (2 * s))
theorem mocodem_504 (b s : Nat) : xall (fun _ a => xBm a) 3 b s codem_504 := And.intro (mocodem_500 b (2 * s)) (mocodem_503 (b + s) (2 * s))
theorem mocodem_505 (b s : Nat) : xall (fun _ a => xBm a) 4 b s codem_505 := And.intro (mocodem_497 b (2 * s)) (mocodem_504 (b + s) (2 * s))
theorem mocodem_506 (b s : Nat) : xall (fun _ a => xBm a) 5 b s codem_506 := And.intro (mocodem_490 b (2 * s)) (mocodem_505 (b + s) (2 * s))
theorem mocodem_507 (b s : Nat) : xall (fun _ a => xBm a) 6 b s codem_507 := And.intro (mocodem_475 b (2 * s)) (mocodem_506 (b + s) (2 * s))
theorem mocodem_508 (b s : Nat) : xall (fun _ a => xBm a) 7 b s codem_508 := And.intro (mocodem_444 b (2 * s)) (mocodem_507 (b + s) (2 * s))
theorem mocodem_509 (b s : Nat) : xall (fun _ a => xBm a) 8 b s codem_509 := And.intro (mocodem_381 b (2 * s)) (mocodem_508 (b + s) (2 * s))
theorem mocodem_510 (b s : Nat) : xall (fun _ a => xBm a) 9 b s codem_510 := And.intro (mocodem_254 b (2 * s)) (mocodem_509 (b + s) (2 * s))
theorem mocodem_511 (b s : Nat) : xall (fun _ a => xBm a) 1 b s codem_511 := And.intro mobm_1 mobm_513
theorem mocodem_512 (b s : Nat) : xall (fun _ a => xBm a) 1 b s codem_512 := And.intro mobm_257 mobm_769
theorem mocodem_513 (b s : Nat) : xall (fun _ a => xBm a) 2 b s codem_513 := And.intro (mocodem_511 b (2 * s)) (mocodem_512 (b + s) (2 * s))
theorem mocodem_514 (b s : Nat) : xall (fun _ a => xBm a) 1 b s codem_514 := And.intro mobm_129 mobm_641
theorem mocodem_515 (b s : Nat) : xall (fun _ a => xBm a) 1 b s codem_515 := And.intro mobm_385 mobm_897
theorem mocodem_516 (b s : Nat) : xall (fun _ a => xBm a) 2 b s codem_516 := And.intro (mocodem_514 b (2 * s)) (mocodem_515 (b + s) (2 * s))
theorem mocodem_517 (b s : Nat) : xall (fun _ a => xBm a) 3 b s codem_517 := And.intro (mocodem_513 b (2 * s)) (mocodem_516 (b + s) (2 * s))
theorem mocodem_518 (b s : Nat) : xall (fun _ a => xBm a) 1 b s codem_518 := And.intro mobm_65 mobm_577
theorem mocodem_519 (b s : Nat) : xall (fun _ a => xBm a) 1 b s codem_519 := And.intro mobm_321 mobm_833
theorem mocodem_520 (b s : Nat) : xall (fun _ a => xBm a) 2 b s codem_520 := And.intro (mocodem_518 b (2 * s)) (mocodem_519 (b + s) (2 * s))
theorem mocodem_521 (b s : Nat) : xall (fun _ a => xBm a) 1 b s codem_521 := And.intro mobm_193 mobm_705
theorem mocodem_522 (b s : Nat) : xall (fun _ a => xBm a) 1 b s codem_522 := And.intro mobm_449 mobm_no
theorem mocodem_523 (b s : Nat) : xall (fun _ a => xBm a) 2 b s codem_523 := And.intro (mocodem_521 b (2 * s)) (mocodem_522 (b + s) (2 * s))
theorem mocodem_524 (b s : Nat) : xall (fun _ a => xBm a) 3 b s codem_524 := And.intro (mocodem_520 b (2 * s)) (mocodem_523 (b + s) (2 * s))
theorem mocodem_525 (b s : Nat) : xall (fun _ a => xBm a) 4 b s codem_525 := And.intro (mocodem_517 b (2 * s)) (mocodem_524 (b + s) (2 * s))
theorem mocodem_526 (b s : Nat) : xall (fun _ a => xBm a) 1 b s codem_526 := And.intro mobm_33 mobm_545
theorem mocodem_527 (b s : Nat) : xall (fun _ a => xBm a) 1 b s codem_527 := And.intro mobm_289 mobm_801
theorem mocodem_528 (b s : Nat) : xall (fun _ a => xBm a) 2 b s codem_528 := And.intro (mocodem_526 b (2 * s)) (mocodem_527 (b + s) (2 * s))
theorem mocodem_529 (b s : Nat) : xall (fun _ a => xBm a) 1 b s codem_529 := And.intro mobm_161 mobm_673
theorem mocodem_530 (b s : Nat) : xall (fun _ a => xBm a) 1 b s codem_530 := And.intro mobm_417 mobm_929
theorem mocodem_531 (b s : Nat) : xall (fun _ a => xBm a) 2 b s codem_531 := And.intro (mocodem_529 b (2 * s)) (mocodem_530 (b + s) (2 * s))
theorem mocodem_532 (b s : Nat) : xall (fun _ a => xBm a) 3 b s codem_532 := And.intro (mocodem_528 b (2 * s)) (mocodem_531 (b + s) (2 * s))
theorem mocodem_533 (b s : Nat) : xall (fun _ a => xBm a) 1 b s codem_533 := And.intro mobm_97 mobm_609
theorem mocodem_534 (b s : Nat) : xall (fun _ a => xBm a) 1 b s codem_534 := And.intro mobm_353 mobm_865
theorem mocodem_535 (b s : Nat) : xall (fun _ a => xBm a) 2 b s codem_535 := And.intro (mocodem_533 b (2 * s)) (mocodem_534 (b + s) (2 * s))
theorem mocodem_536 (b s : Nat) : xall (fun _ a => xBm a) 1 b s codem_536 := And.intro mobm_225 mobm_737
theorem mocodem_537 (b s : Nat) : xall (fun _ a => xBm a) 1 b s codem_537 := And.intro mobm_481 mobm_no
theorem mocodem_538 (b s : Nat) : xall (fun _ a => xBm a) 2 b s codem_538 := And.intro (mocodem_536 b (2 * s)) (mocodem_537 (b + s) (2 * s))
theorem mocodem_539 (b s : Nat) : xall (fun _ a => xBm a) 3 b s codem_539 := And.intro (mocodem_535 b (2 * s)) (mocodem_538 (b + s) (2 * s))
theorem mocodem_540 (b s : Nat) : xall (fun _ a => xBm a) 4 b s codem_540 := And.intro (mocodem_532 b (2 * s)) (mocodem_539 (b + s) (2 * s))
theorem mocodem_541 (b s : Nat) : xall (fun _ a => xBm a) 5 b s codem_541 := And.intro (mocodem_525 b (2 * s)) (mocodem_540 (b + s) (2 * s))
theorem mocodem_542 (b s : Nat) : xall (fun _ a => xBm a) 1 b s codem_542 := And.intro mobm_17 mobm_529
theorem mocodem_543 (b s : Nat) : xall (fun _ a => xBm a) 1 b s codem_543 := And.intro mobm_273 mobm_785
theorem mocodem_544 (b s : Nat) : xall (fun _ a => xBm a) 2 b s codem_544 := And.intro (mocodem_542 b (2 * s)) (mocodem_543 (b + s) (2 * s))
theorem mocodem_545 (b s : Nat) : xall (fun _ a => xBm a) 1 b s codem_545 := And.intro mobm_145 mobm_657
theorem mocodem_546 (b s : Nat) : xall (fun _ a => xBm a) 1 b s codem_546 := And.intro mobm_401 mobm_913
theorem mocodem_547 (b s : Nat) : xall (fun _ a => xBm a) 2 b s codem_547 := And.intro (mocodem_545 b (2 * s)) (mocodem_546 (b + s) (2 * s))
theorem mocodem_548 (b s : Nat) : xall (fun _ a => xBm a) 3 b s codem_548 := And.intro (mocodem_544 b (2 * s)) (mocodem_547 (b + s) (2 * s))
theorem mocodem_549 (b s : Nat) : xall (fun _ a => xBm a) 1 b s codem_549 := And.intro mobm_81 mobm_593
theorem mocodem_550 (b s : Nat) : xall (fun _ a => xBm a) 1 b s codem_550 := And.intro mobm_337 mobm_849
theorem mocodem_551 (b s : Nat) : xall (fun _ a => xBm a) 2 b s codem_551 := And.intro (mocodem_549 b (2 * s)) (mocodem_550 (b + s) (2 * s))
theorem mocodem_552 (b s : Nat) : xall (fun _ a => xBm a) 1 b s codem_552 := And.intro mobm_209 mobm_721
theorem mocodem_553 (b s : Nat) : xall (fun _ a => xBm a) 1 b s codem_553 := And.intro mobm_465 mobm_no
theorem mocodem_554 (b s : Nat) : xall (fun _ a => xBm a) 2 b s codem_554 := And.intro (mocodem_552 b (2 * s)) (mocodem_553 (b + s) (2 * s))
theorem mocodem_555 (b s : Nat) : xall (fun _ a => xBm a) 3 b s codem_555 := And.intro (mocodem_551 b (2 * s)) (mocodem_554 (b + s) (2 * s))
theorem mocodem_556 (b s : Nat) : xall (fun _ a => xBm a) 4 b s codem_556 := And.intro (mocodem_548 b (2 * s)) (mocodem_555 (b + s) (2 * s))
theorem mocodem_557 (b s : Nat) : xall (fun _ a => xBm a) 1 b s codem_557 := And.intro mobm_49 mobm_561
theorem mocodem_558 (b s : Nat) : xall (fun _ a => xBm a) 1 b s codem_558 := And.intro mobm_305 mobm_817
theorem mocodem_559 (b s : Nat) : xall (fun _ a => xBm a) 2 b s codem_559 := And.intro (mocodem_557 b (2 * s)) (mocodem_558 (b + s) (2 * s))
theorem mocodem_560 (b s : Nat) : xall (fun _ a => xBm a) 1 b s codem_560 := And.intro mobm_177 mobm_689
theorem mocodem_561 (b s : Nat) : xall (fun _ a => xBm a) 1 b s codem_561 := And.intro mobm_433 mobm_945
theorem mocodem_562 (b s : Nat) : xall (fun _ a => xBm a) 2 b s codem_562 := And.intro (mocodem_560 b (2 * s)) (mocodem_561 (b + s) (2 * s))
theorem mocodem_563 (b s : Nat) : xall (fun _ a => xBm a) 3 b s codem_563 := And.intro (mocodem_559 b (2 * s)) (mocodem_562 (b + s) (2 * s))
theorem mocodem_564 (b s : Nat) : xall (fun _ a => xBm a) 1 b s codem_564 := And.intro mobm_113 mobm_625
theorem mocodem_565 (b s : Nat) : xall (fun _ a => xBm a) 1 b s codem_565 := And.intro mobm_369 mobm_881
theorem mocodem_566 (b s : Nat) : xall (fun _ a => xBm a) 2 b s codem_566 := And.intro (mocodem_564 b (2 * s)) (mocodem_565 (b + s) (2 * s))
theorem mocodem_567 (b s : Nat) : xall (fun _ a => xBm a) 1 b s codem_567 := And.intro mobm_241 mobm_753
theorem mocodem_568 (b s : Nat) : xall (fun _ a => xBm a) 1 b s codem_568 := And.intro mobm_497 mobm_no
theorem mocodem_569 (b s : Nat) : xall (fun _ a => xBm a) 2 b s codem_569 := And.intro (mocodem_567 b (2 * s)) (mocodem_568 (b + s) (2 * s))
theorem mocodem_570 (b s : Nat) : xall (fun _ a => xBm a) 3 b s codem_570 := And.intro (mocodem_566 b (2 * s)) (mocodem_569 (b + s) (2 * s))
theorem mocodem_571 (b s : Nat) : xall (fun _ a => xBm a) 4 b s codem_571 := And.intro (mocodem_563 b (2 * s)) (mocodem_570 (b + s) (2 * s))
theorem mocodem_572 (b s : Nat) : xall (fun _ a => xBm a) 5 b s codem_572 := And.intro (mocodem_556 b (2 * s)) (mocodem_571 (b + s) (2 * s))
theorem mocodem_573 (b s : Nat) : xall (fun _ a => xBm a) 6 b s codem_573 := And.intro (mocodem_541 b (2 * s)) (mocodem_572 (b + s) (2 * s))
theorem mocodem_574 (b s : Nat) : xall (fun _ a => xBm a) 1 b s codem_574 := And.intro mobm_9 mobm_521
theorem mocodem_575 (b s : Nat) : xall (fun _ a => xBm a) 1 b s codem_575 := And.intro mobm_265 mobm_777
theorem mocodem_576 (b s : Nat) : xall (fun _ a => xBm a) 2 b s codem_576 := And.intro (mocodem_574 b (2 * s)) (mocodem_575 (b + s) (2 * s))
theorem mocodem_577 (b s : Nat) : xall (fun _ a => xBm a) 1 b s codem_577 := And.intro mobm_137 mobm_649
theorem mocodem_578 (b s : Nat) : xall (fun _ a => xBm a) 1 b s codem_578 := And.intro mobm_393 mobm_905
theorem mocodem_579 (b s : Nat) : xall (fun _ a => xBm a) 2 b s codem_579 := And.intro (mocodem_577 b (2 * s)) (mocodem_578 (b + s) (2 * s))
theorem mocodem_580 (b s : Nat) : xall (fun _ a => xBm a) 3 b s codem_580 := And.intro (mocodem_576 b (2 * s)) (mocodem_579 (b + s) (2 * s))
theorem mocodem_581 (b s : Nat) : xall (fun _ a => xBm a) 1 b s codem_581 := And.intro mobm_73 mobm_585
theorem mocodem_582 (b s : Nat) : xall (fun _ a => xBm a) 1 b s codem_582 := And.intro mobm_329 mobm_841
theorem mocodem_583 (b s : Nat) : xall (fun _ a => xBm a) 2 b s codem_583 := And.intro (mocodem_581 b (2 * s)) (mocodem_582 (b + s) (2 * s))
theorem mocodem_584 (b s : Nat) : xall (fun _ a => xBm a) 1 b s codem_584 := And.intro mobm_201 mobm_713
theorem mocodem_585 (b s : Nat) : xall (fun _ a => xBm a) 1 b s codem_585 := And.intro mobm_457 mobm_no
theorem mocodem_586 (b s : Nat) : xall (fun _ a => xBm a) 2 b s codem_586 := And.intro (mocodem_584 b (2 * s)) (mocodem_585 (b + s) (2 * s))
theorem mocodem_587 (b s : Nat) : xall (fun _ a => xBm a) 3 b s codem_587 := And.intro (mocodem_583 b (2 * s)) (mocodem_586 (b + s) (2 * s))
theorem mocodem_588 (b s : Nat) : xall (fun _ a => xBm a) 4 b s codem_588 := And.intro (mocodem_580 b (2 * s)) (mocodem_587 (b + s) (2 * s))
theorem mocodem_589 (b s : Nat) : xall (fun _ a => xBm a) 1 b s codem_589 := And.intro mobm_41 mobm_553
theorem mocodem_590 (b s : Nat) : xall (fun _ a => xBm a) 1 b s codem_590 := And.intro mobm_297 mobm_809
theorem mocodem_591 (b s : Nat) : xall (fun _ a => xBm a) 2 b s codem_591 := And.intro (mocodem_589 b (2 * s)) (mocodem_590 (b + s) (2 * s))
theorem mocodem_592 (b s : Nat) : xall (fun _ a => xBm a) 1 b s codem_592 := And.intro mobm_169 mobm_681
theorem mocodem_593 (b s : Nat) : xall (fun _ a => xBm a) 1 b s codem_593 := And.intro mobm_425 mobm_937
theorem mocodem_594 (b s : Nat) : xall (fun _ a => xBm a) 2 b s codem_594 := And.intro (mocodem_592 b (2 * s)) (mocodem_593 (b + s) (2 * s))
theorem mocodem_595 (b s : Nat) : xall (fun _ a => xBm a) 3 b s codem_595 := And.intro (mocodem_591 b (2 * s)) (mocodem_594 (b + s) (2 * s))
theorem mocodem_596 (b s : Nat) : xall (fun _ a => xBm a) 1 b s codem_596 := And.intro mobm_105 mobm_617
theorem mocodem_597 (b s : Nat) : xall (fun _ a => xBm a) 1 b s codem_597 := And.intro mobm_361 mobm_873
theorem mocodem_598 (b s : Nat) : xall (fun _ a => xBm a) 2 b s codem_598 := And.intro (mocodem_596 b (2 * s)) (mocodem_597 (b + s) (2 * s))
theorem mocodem_599 (b s : Nat) : xall (fun _ a => xBm a) 1 b s codem_599 := And.intro mobm_233 mobm_745
theorem mocodem_600 (b s : Nat) : xall (fun _ a => xBm a) 1 b s codem_600 := And.intro mobm_489 mobm_no
theorem mocodem_601 (b s : Nat) : xall (fun _ a => xBm a) 2 b s codem_601 := And.intro (mocodem_599 b (2 * s)) (mocodem_600 (b + s) (2 * s))
theorem mocodem_602 (b s : Nat) : xall (fun _ a => xBm a) 3 b s codem_602 := And.intro (mocodem_598 b (2 * s)) (mocodem_601 (b + s) (2 * s))
theorem mocodem_603 (b s : Nat) : xall (fun _ a => xBm a) 4 b s codem_603 := And.intro (mocodem_595 b (2 * s)) (mocodem_602 (b + s) (2 * s))
theorem mocodem_604 (b s : Nat) : xall (fun _ a => xBm a) 5 b s codem_604 := And.intro (mocodem_588 b (2 * s)) (mocodem_603 (b + s) (2 * s))
theorem mocodem_605 (b s : Nat) : xall (fun _ a => xBm a) 1 b s codem_605 := And.intro mobm_25 mobm_537
theorem mocodem_606 (b s : Nat) : xall (fun _ a => xBm a) 1 b s codem_606 := And.intro mobm_281 mobm_793
theorem mocodem_607 (b s : Nat) : xall (fun _ a => xBm a) 2 b s codem_607 := And.intro (mocodem_605 b (2 * s)) (mocodem_606 (b + s) (2 * s))
theorem mocodem_608 (b s : Nat) : xall (fun _ a => xBm a) 1 b s codem_608 := And.intro mobm_153 mobm_665
theorem mocodem_609 (b s : Nat) : xall (fun _ a => xBm a) 1 b s codem_609 := And.intro mobm_409 mobm_921
theorem mocodem_610 (b s : Nat) : xall (fun _ a => xBm a) 2 b s codem_610 := And.intro (mocodem_608 b (2 * s)) (mocodem_609 (b + s) (2 * s))
theorem mocodem_611 (b s : Nat) : xall (fun _ a => xBm a) 3 b s codem_611 := And.intro (mocodem_607 b (2 * s)) (mocodem_610 (b + s) (2 * s))
theorem mocodem_612 (b s : Nat) : xall (fun _ a => xBm a) 1 b s codem_612 := And.intro mobm_89 mobm_601
theorem mocodem_613 (b s : Nat) : xall (fun _ a => xBm a) 1 b s codem_613 := And.intro mobm_345 mobm_857
theorem mocodem_614 (b s : Nat) : xall (fun _ a => xBm a) 2 b s codem_614 := And.intro (mocodem_612 b (2 * s)) (mocodem_613 (b + s) (2 * s))
theorem mocodem_615 (b s : Nat) : xall (fun _ a => xBm a) 1 b s codem_615 := And.intro mobm_217 mobm_729
theorem mocodem_616 (b s : Nat) : xall (fun _ a => xBm a) 1 b s codem_616 := And.intro mobm_473 mobm_no
theorem mocodem_617 (b s : Nat) : xall (fun _ a => xBm a) 2 b s codem_617 := And.intro (mocodem_615 b (2 * s)) (mocodem_616 (b + s) (2 * s))
theorem mocodem_618 (b s : Nat) : xall (fun _ a => xBm a) 3 b s codem_618 := And.intro (mocodem_614 b (2 * s)) (mocodem_617 (b + s) (2 * s))
theorem mocodem_619 (b s : Nat) : xall (fun _ a => xBm a) 4 b s codem_619 := And.intro (mocodem_611 b (2 * s)) (mocodem_618 (b + s) (2 * s))
theorem mocodem_620 (b s : Nat) : xall (fun _ a => xBm a) 1 b s codem_620 := And.intro mobm_57 mobm_569
theorem mocodem_621 (b s : Nat) : xall (fun _ a => xBm a) 1 b s codem_621 := And.intro mobm_313 mobm_825
theorem mocodem_622 (b s : Nat) : xall (fun _ a => xBm a) 2 b s codem_622 := And.intro (mocodem_620 b (2 * s)) (mocodem_621 (b + s) (2 * s))
theorem mocodem_623 (b s : Nat) : xall (fun _ a => xBm a) 1 b s codem_623 := And.intro mobm_185 mobm_697
theorem mocodem_624 (b s : Nat) : xall (fun _ a => xBm a) 1 b s codem_624 := And.intro mobm_441 mobm_953
theorem mocodem_625 (b s : Nat) : xall (fun _ a => xBm a) 2 b s codem_625 := And.intro (mocodem_623 b (2 * s)) (mocodem_624 (b + s) (2 * s))
theorem mocodem_626 (b s : Nat) : xall (fun _ a => xBm a) 3 b s codem_626 := And.intro (mocodem_622 b (2 * s)) (mocodem_625 (b + s) (2 * s))
theorem mocodem_627 (b s : Nat) : xall (fun _ a => xBm a) 1 b s codem_627 := And.intro mobm_121 mobm_633
theorem mocodem_628 (b s : Nat) : xall (fun _ a => xBm a) 1 b s codem_628 := And.intro mobm_377 mobm_889
theorem mocodem_629 (b s : Nat) : xall (fun _ a => xBm a) 2 b s codem_629 := And.intro (mocodem_627 b (2 * s)) (mocodem_628 (b + s) (2 * s))
theorem mocodem_630 (b s : Nat) : xall (fun _ a => xBm a) 1 b s codem_630 := And.intro mobm_249 mobm_761
theorem mocodem_631 (b s : Nat) : xall (fun _ a => xBm a) 1 b s codem_631 := And.intro mobm_505 mobm_no
theorem mocodem_632 (b s : Nat) : xall (fun _ a => xBm a) 2 b s codem_632 := And.intro (mocodem_630 b (2 * s)) (mocodem_631 (b + s) (2 * s))
theorem mocodem_633 (b s : Nat) : xall (fun _ a => xBm a) 3 b s codem_633 := And.intro (mocodem_629 b (2 * s)) (mocodem_632 (b + s) (2 * s))
theorem mocodem_634 (b s : Nat) : xall (fun _ a => xBm a) 4 b s codem_634 := And.intro (mocodem_626 b (2 * s)) (mocodem_633 (b + s) (2 * s))
theorem mocodem_635 (b s : Nat) : xall (fun _ a => xBm a) 5 b s codem_635 := And.intro (mocodem_619 b (2 * s)) (mocodem_634 (b + s) (2 * s))
theorem mocodem_636 (b s : Nat) : xall (fun _ a => xBm a) 6 b s codem_636 := And.intro (mocodem_604 b (2 * s)) (mocodem_635 (b + s) (2 * s))
theorem mocodem_637 (b s : Nat) : xall (fun _ a => xBm a) 7 b s codem_637 := And.intro (mocodem_573 b (2 * s)) (mocodem_636 (b + s) (2 * s))
theorem mocodem_638 (b s : Nat) : xall (fun _ a => xBm a) 1 b s codem_638 := And.intro mobm_5 mobm_517
theorem mocodem_639 (b s : Nat) : xall (fun _ a => xBm a) 1 b s codem_639 := And.intro mobm_261 mobm_773
theorem mocodem_640 (b s : Nat) : xall (fun _ a => xBm a) 2 b s codem_640 := And.intro (mocodem_638 b (2 * s)) (mocodem_639 (b + s) (2 * s))
theorem mocodem_641 (b s : Nat) : xall (fun _ a => xBm a) 1 b s codem_641 := And.intro mobm_133 mobm_645
theorem mocodem_642 (b s : Nat) : xall (fun _ a => xBm a) 1 b s codem_642 := And.intro mobm_389 mobm_901
theorem mocodem_643 (b s : Nat) : xall (fun _ a => xBm a) 2 b s codem_643 := And.intro (mocodem_641 b (2 * s)) (mocodem_642 (b + s) (2 * s))
theorem mocodem_644 (b s : Nat) : xall (fun _ a => xBm a) 3 b s codem_644 := And.intro (mocodem_640 b (2 * s)) (mocodem_643 (b + s) (2 * s))
theorem mocodem_645 (b s : Nat) : xall (fun _ a => xBm a) 1 b s codem_645 := And.intro mobm_69 mobm_581
theorem mocodem_646 (b s : Nat) : xall (fun _ a => xBm a) 1 b s codem_646 := And.intro mobm_325 mobm_837
theorem mocodem_647 (b s : Nat) : xall (fun _ a => xBm a) 2 b s codem_647 := And.intro (mocodem_645 b (2 * s)) (mocodem_646 (b + s) (2 * s))
theorem mocodem_648 (b s : Nat) : xall (fun _ a => xBm a) 1 b s codem_648 := And.intro mobm_197 mobm_709
theorem mocodem_649 (b s : Nat) : xall (fun _ a => xBm a) 1 b s codem_649 := And.intro mobm_453 mobm_no
theorem mocodem_650 (b s : Nat) : xall (fun _ a => xBm a) 2 b s codem_650 := And.intro (mocodem_648 b (2 * s)) (mocodem_649 (b + s) (2 * s))
theorem mocodem_651 (b s : Nat) : xall (fun _ a => xBm a) 3 b s codem_651 := And.intro (mocodem_647 b (2 * s)) (mocodem_650 (b + s) (2 * s))
theorem mocodem_652 (b s : Nat) : xall (fun _ a => xBm a) 4 b s codem_652 := And.intro (mocodem_644 b (2 * s)) (mocodem_651 (b + s) (2 * s))
theorem mocodem_653 (b s : Nat) : xall (fun _ a => xBm a) 1 b s codem_653 := And.intro mobm_37 mobm_549
theorem mocodem_654 (b s : Nat) : xall (fun _ a => xBm a) 1 b s codem_654 := And.intro mobm_293 mobm_805
theorem mocodem_655 (b s : Nat) : xall (fun _ a => xBm a) 2 b s codem_655 := And.intro (mocodem_653 b (2 * s)) (mocodem_654 (b + s) (2 * s))
theorem mocodem_656 (b s : Nat) : xall (fun _ a => xBm a) 1 b s codem_656 := And.intro mobm_165 mobm_677
theorem mocodem_657 (b s : Nat) : xall (fun _ a => xBm a) 1 b s codem_657 := And.intro mobm_421 mobm_933
theorem mocodem_658 (b s : Nat) : xall (fun _ a => xBm a) 2 b s codem_658 := And.intro (mocodem_656 b (2 * s)) (mocodem_657 (b + s) (2 * s))
theorem mocodem_659 (b s : Nat) : xall (fun _ a => xBm a) 3 b s codem_659 := And.intro (mocodem_655 b (2 * s)) (mocodem_658 (b + s) (2 * s))
theorem mocodem_660 (b s : Nat) : xall (fun _ a => xBm a) 1 b s codem_660 := And.intro mobm_101 mobm_613
theorem mocodem_661 (b s : Nat) : xall (fun _ a => xBm a) 1 b s codem_661 := And.intro mobm_357 mobm_869
theorem mocodem_662 (b s : Nat) : xall (fun _ a => xBm a) 2 b s codem_662 := And.intro (mocodem_660 b (2 * s)) (mocodem_661 (b + s) (2 * s))
theorem mocodem_663 (b s : Nat) : xall (fun _ a => xBm a) 1 b s codem_663 := And.intro mobm_229 mobm_741
theorem mocodem_664 (b s : Nat) : xall (fun _ a => xBm a) 1 b s codem_664 := And.intro mobm_485 mobm_no
theorem mocodem_665 (b s : Nat) : xall (fun _ a => xBm a) 2 b s codem_665 := And.intro (mocodem_663 b (2 * s)) (mocodem_664 (b + s) (2 * s))
theorem mocodem_666 (b s : Nat) : xall (fun _ a => xBm a) 3 b s codem_666 := And.intro (mocodem_662 b (2 * s)) (mocodem_665 (b + s) (2 * s))
theorem mocodem_667 (b s : Nat) : xall (fun _ a => xBm a) 4 b s codem_667 := And.intro (mocodem_659 b (2 * s)) (mocodem_666 (b + s) (2 * s))
theorem mocodem_668 (b s : Nat) : xall (fun _ a => xBm a) 5 b s codem_668 := And.intro (mocodem_652 b (2 * s)) (mocodem_667 (b + s) (2 * s))
theorem mocodem_669 (b s : Nat) : xall (fun _ a => xBm a) 1 b s codem_669 := And.intro mobm_21 mobm_533
theorem mocodem_670 (b s : Nat) : xall (fun _ a => xBm a) 1 b s codem_670 := And.intro mobm_277 mobm_789
theorem mocodem_671 (b s : Nat) : xall (fun _ a => xBm a) 2 b s codem_671 := And.intro (mocodem_669 b (2 * s)) (mocodem_670 (b + s) (2 * s))
theorem mocodem_672 (b s : Nat) : xall (fun _ a => xBm a) 1 b s codem_672 := And.intro mobm_149 mobm_661
theorem mocodem_673 (b s : Nat) : xall (fun _ a => xBm a) 1 b s codem_673 := And.intro mobm_405 mobm_917
theorem mocodem_674 (b s : Nat) : xall (fun _ a => xBm a) 2 b s codem_674 := And.intro (mocodem_672 b (2 * s)) (mocodem_673 (b + s) (2 * s))
theorem mocodem_675 (b s : Nat) : xall (fun _ a => xBm a) 3 b s codem_675 := And.intro (mocodem_671 b (2 * s)) (mocodem_674 (b + s) (2 * s))
theorem mocodem_676 (b s : Nat) : xall (fun _ a => xBm a) 1 b s codem_676 := And.intro mobm_85 mobm_597
theorem mocodem_677 (b s : Nat) : xall (fun _ a => xBm a) 1 b s codem_677 := And.intro mobm_341 mobm_853
theorem mocodem_678 (b s : Nat) : xall (fun _ a => xBm a) 2 b s codem_678 := And.intro (mocodem_676 b (2 * s)) (mocodem_677 (b + s) (2 * s))
theorem mocodem_679 (b s : Nat) : xall (fun _ a => xBm a) 1 b s codem_679 := And.intro mobm_213 mobm_725
theorem mocodem_680 (b s : Nat) : xall (fun _ a => xBm a) 1 b s codem_680 := And.intro mobm_469 mobm_no
theorem mocodem_681 (b s : Nat) : xall (fun _ a => xBm a) 2 b s codem_681 := And.intro (mocodem_679 b (2 * s)) (mocodem_680 (b + s) (2 * s))
theorem mocodem_682 (b s : Nat) : xall (fun _ a => xBm a) 3 b s codem_682 := And.intro (mocodem_678 b (2 * s)) (mocodem_681 (b + s) (2 * s))
theorem mocodem_683 (b s : Nat) : xall (fun _ a => xBm a) 4 b s codem_683 := And.intro (mocodem_675 b (2 * s)) (mocodem_682 (b + s) (2 * s))
theorem mocodem_684 (b s : Nat) : xall (fun _ a => xBm a) 1 b s codem_684 := And.intro mobm_53 mobm_565
theorem mocodem_685 (b s : Nat) : xall (fun _ a => xBm a) 1 b s codem_685 := And.intro mobm_309 mobm_821
theorem mocodem_686 (b s : Nat) : xall (fun _ a => xBm a) 2 b s codem_686 := And.intro (mocodem_684 b (2 * s)) (mocodem_685 (b + s) (2 * s))
theorem mocodem_687 (b s : Nat) : xall (fun _ a => xBm a) 1 b s codem_687 := And.intro mobm_181 mobm_693
theorem mocodem_688 (b s : Nat) : xall (fun _ a => xBm a) 1 b s codem_688 := And.intro mobm_437 mobm_949
theorem mocodem_689 (b s : Nat) : xall (fun _ a => xBm a) 2 b s codem_689 := And.intro (mocodem_687 b (2 * s)) (mocodem_688 (b + s) (2 * s))
theorem mocodem_690 (b s : Nat) : xall (fun _ a => xBm a) 3 b s codem_690 := And.intro (mocodem_686 b (2 * s)) (mocodem_689 (b + s) (2 * s))
theorem mocodem_691 (b s : Nat) : xall (fun _ a => xBm a) 1 b s codem_691 := And.intro mobm_117 mobm_629
theorem mocodem_692 (b s : Nat) : xall (fun _ a => xBm a) 1 b s codem_692 := And.intro mobm_373 mobm_885
theorem mocodem_693 (b s : Nat) : xall (fun _ a => xBm a) 2 b s codem_693 := And.intro (mocodem_691 b (2 * s)) (mocodem_692 (b + s) (2 * s))
theorem mocodem_694 (b s : Nat) : xall (fun _ a => xBm a) 1 b s codem_694 := And.intro mobm_245 mobm_757
theorem mocodem_695 (b s : Nat) : xall (fun _ a => xBm a) 1 b s codem_695 := And.intro mobm_501 mobm_no
theorem mocodem_696 (b s : Nat) : xall (fun _ a => xBm a) 2 b s codem_696 := And.intro (mocodem_694 b (2 * s)) (mocodem_695 (b + s) (2 * s))
theorem mocodem_697 (b s : Nat) : xall (fun _ a => xBm a) 3 b s codem_697 := And.intro (mocodem_693 b (2 * s)) (mocodem_696 (b + s) (2 * s))
theorem mocodem_698 (b s : Nat) : xall (fun _ a => xBm a) 4 b s codem_698 := And.intro (mocodem_690 b (2 * s)) (mocodem_697 (b + s) (2 * s))
theorem mocodem_699 (b s : Nat) : xall (fun _ a => xBm a) 5 b s codem_699 := And.intro (mocodem_683 b (2 * s)) (mocodem_698 (b + s) (2 * s))
theorem mocodem_700 (b s : Nat) : xall (fun _ a => xBm a) 6 b s codem_700 := And.intro (mocodem_668 b (2 * s)) (mocodem_699 (b + s) (2 * s))
theorem mocodem_701 (b s : Nat) : xall (fun _ a => xBm a) 1 b s codem_701 := And.intro mobm_13 mobm_525
theorem mocodem_702 (b s : Nat) : xall (fun _ a => xBm a) 1 b s codem_702 := And.intro mobm_269 mobm_781
theorem mocodem_703 (b s : Nat) : xall (fun _ a => xBm a) 2 b s codem_703 := And.intro (mocodem_701 b (2 * s)) (mocodem_702 (b + s) (2 * s))
theorem mocodem_704 (b s : Nat) : xall (fun _ a => xBm a) 1 b s codem_704 := And.intro mobm_141 mobm_653
theorem mocodem_705 (b s : Nat) : xall (fun _ a => xBm a) 1 b s codem_705 := And.intro mobm_397 mobm_909
theorem mocodem_706 (b s : Nat) : xall (fun _ a => xBm a) 2 b s codem_706 := And.intro (mocodem_704 b (2 * s)) (mocodem_705 (b + s) (2 * s))
theorem mocodem_707 (b s : Nat) : xall (fun _ a => xBm a) 3 b s codem_707 := And.intro (mocodem_703 b (2 * s)) (mocodem_706 (b + s) (2 * s))
theorem mocodem_708 (b s : Nat) : xall (fun _ a => xBm a) 1 b s codem_708 := And.intro mobm_77 mobm_589
theorem mocodem_709 (b s : Nat) : xall (fun _ a => xBm a) 1 b s codem_709 := And.intro mobm_333 mobm_845
theorem mocodem_710 (b s : Nat) : xall (fun _ a => xBm a) 2 b s codem_710 := And.intro (mocodem_708 b (2 * s)) (mocodem_709 (b + s) (2 * s))
theorem mocodem_711 (b s : Nat) : xall (fun _ a => xBm a) 1 b s codem_711 := And.intro mobm_205 mobm_717
theorem mocodem_712 (b s : Nat) : xall (fun _ a => xBm a) 1 b s codem_712 := And.intro mobm_461 mobm_no
theorem mocodem_713 (b s : Nat) : xall (fun _ a => xBm a) 2 b s codem_713 := And.intro (mocodem_711 b (2 * s)) (mocodem_712 (b + s) (2 * s))
theorem mocodem_714 (b s : Nat) : xall (fun _ a => xBm a) 3 b s codem_714 := And.intro (mocodem_710 b (2 * s)) (mocodem_713 (b + s) (2 * s))
theorem mocodem_715 (b s : Nat) : xall (fun _ a => xBm a) 4 b s codem_715 := And.intro (mocodem_707 b (2 * s)) (mocodem_714 (b + s) (2 * s))
theorem mocodem_716 (b s : Nat) : xall (fun _ a => xBm a) 1 b s codem_716 := And.intro mobm_45 mobm_557
theorem mocodem_717 (b s : Nat) : xall (fun _ a => xBm a) 1 b s codem_717 := And.intro mobm_301 mobm_813
theorem mocodem_718 (b s : Nat) : xall (fun _ a => xBm a) 2 b s codem_718 := And.intro (mocodem_716 b (2 * s)) (mocodem_717 (b + s) (2 * s))
theorem mocodem_719 (b s : Nat) : xall (fun _ a => xBm a) 1 b s codem_719 := And.intro mobm_173 mobm_685
theorem mocodem_720 (b s : Nat) : xall (fun _ a => xBm a) 1 b s codem_720 := And.intro mobm_429 mobm_941
theorem mocodem_721 (b s : Nat) : xall (fun _ a => xBm a) 2 b s codem_721 := And.intro (mocodem_719 b (2 * s)) (mocodem_720 (b + s) (2 * s))
theorem mocodem_722 (b s : Nat) : xall (fun _ a => xBm a) 3 b s codem_722 := And.intro (mocodem_718 b (2 * s)) (mocodem_721 (b + s) (2 * s))
theorem mocodem_723 (b s : Nat) : xall (fun _ a => xBm a) 1 b s codem_723 := And.intro mobm_109 mobm_621
theorem mocodem_724 (b s : Nat) : xall (fun _ a => xBm a) 1 b s codem_724 := And.intro mobm_365 mobm_877
theorem mocodem_725 (b s : Nat) : xall (fun _ a => xBm a) 2 b s codem_725 := And.intro (mocodem_723 b (2 * s)) (mocodem_724 (b + s) (2 * s))
theorem mocodem_726 (b s : Nat) : xall (fun _ a => xBm a) 1 b s codem_726 := And.intro mobm_237 mobm_749
theorem mocodem_727 (b s : Nat) : xall (fun _ a => xBm a) 1 b s codem_727 := And.intro mobm_493 mobm_no
theorem mocodem_728 (b s : Nat) : xall (fun _ a => xBm a) 2 b s codem_728 := And.intro (mocodem_726 b (2 * s)) (mocodem_727 (b + s) (2 * s))
theorem mocodem_729 (b s : Nat) : xall (fun _ a => xBm a) 3 b s codem_729 := And.intro (mocodem_725 b (2 * s)) (mocodem_728 (b + s) (2 * s))
theorem mocodem_730 (b s : Nat) : xall (fun _ a => xBm a) 4 b s codem_730 := And.intro (mocodem_722 b (2 * s)) (mocodem_729 (b + s) (2 * s))
theorem mocodem_731 (b s : Nat) : xall (fun _ a => xBm a) 5 b s codem_731 := And.intro (mocodem_715 b (2 * s)) (mocodem_730 (b + s) (2 * s))
theorem mocodem_732 (b s : Nat) : xall (fun _ a => xBm a) 1 b s codem_732 := And.intro mobm_29 mobm_541
theorem mocodem_733 (b s : Nat) : xall (fun _ a => xBm a) 1 b s codem_733 := And.intro mobm_285 mobm_797
theorem mocodem_734 (b s : Nat) : xall (fun _ a => xBm a) 2 b s codem_734 := And.intro (mocodem_732 b (2 * s)) (mocodem_733 (b + s) (2 * s))
theorem mocodem_735 (b s : Nat) : xall (fun _ a => xBm a) 1 b s codem_735 := And.intro mobm_157 mobm_669
theorem mocodem_736 (b s : Nat) : xall (fun _ a => xBm a) 1 b s codem_736 := And.intro mobm_413 mobm_925
theorem mocodem_737 (b s : Nat) : xall (fun _ a => xBm a) 2 b s codem_737 := And.intro (mocodem_735 b (2 * s)) (mocodem_736 (b + s) (2 * s))
theorem mocodem_738 (b s : Nat) : xall (fun _ a => xBm a) 3 b s codem_738 := And.intro (mocodem_734 b (2 * s)) (mocodem_737 (b + s) (2 * s))
theorem mocodem_739 (b s : Nat) : xall (fun _ a => xBm a) 1 b s codem_739 := And.intro mobm_93 mobm_605
theorem mocodem_740 (b s : Nat) : xall (fun _ a => xBm a) 1 b s codem_740 := And.intro mobm_349 mobm_861
theorem mocodem_741 (b s : Nat) : xall (fun _ a => xBm a) 2 b s codem_741 := And.intro (mocodem_739 b (2 * s)) (mocodem_740 (b + s) (2 * s))
theorem mocodem_742 (b s : Nat) : xall (fun _ a => xBm a) 1 b s codem_742 := And.intro mobm_221 mobm_733
theorem mocodem_743 (b s : Nat) : xall (fun _ a => xBm a) 1 b s codem_743 := And.intro mobm_477 mobm_no
theorem mocodem_744 (b s : Nat) : xall (fun _ a => xBm a) 2 b s codem_744 := And.intro (mocodem_742 b (2 * s)) (mocodem_743 (b + s) (2 * s))
theorem mocodem_745 (b s : Nat) : xall (fun _ a => xBm a) 3 b s codem_745 := And.intro (mocodem_741 b (2 * s)) (mocodem_744 (b + s) (2 * s))
theorem mocodem_746 (b s : Nat) : xall (fun _ a => xBm a) 4 b s codem_746 := And.intro (mocodem_738 b (2 * s)) (mocodem_745 (b + s) (2 * s))
theorem mocodem_747 (b s : Nat) : xall (fun _ a => xBm a) 1 b s codem_747 := And.intro mobm_61 mobm_573
theorem mocodem_748 (b s : Nat) : xall (fun _ a => xBm a) 1 b s codem_748 := And.intro mobm_317 mobm_829
theorem mocodem_749 (b s : Nat) : xall (fun _ a => xBm a) 2 b s codem_749 := And.intro (mocodem_747 b (2 * s)) (mocodem_748 (b + s) (2 * s))
theorem mocodem_750 (b s : Nat) : xall (fun _ a => xBm a) 1 b s codem_750 := And.intro mobm_189 mobm_701
theorem mocodem_751 (b s : Nat) : xall (fun _ a => xBm a) 1 b s codem_751 := And.intro mobm_445 mobm_957
theorem mocodem_752 (b s : Nat) : xall (fun _ a => xBm a) 2 b s codem_752 := And.intro (mocodem_750 b (2 * s)) (mocodem_751 (b + s) (2 * s))
theorem mocodem_753 (b s : Nat) : xall (fun _ a => xBm a) 3 b s codem_753 := And.intro (mocodem_749 b (2 * s)) (mocodem_752 (b + s) (2 * s))
theorem mocodem_754 (b s : Nat) : xall (fun _ a => xBm a) 1 b s codem_754 := And.intro mobm_125 mobm_637
theorem mocodem_755 (b s : Nat) : xall (fun _ a => xBm a) 1 b s codem_755 := And.intro mobm_381 mobm_893
theorem mocodem_756 (b s : Nat) : xall (fun _ a => xBm a) 2 b s codem_756 := And.intro (mocodem_754 b (2 * s)) (mocodem_755 (b + s) (2 * s))
theorem mocodem_757 (b s : Nat) : xall (fun _ a => xBm a) 1 b s codem_757 := And.intro mobm_253 mobm_765
theorem mocodem_758 (b s : Nat) : xall (fun _ a => xBm a) 1 b s codem_758 := And.intro mobm_509 mobm_no
theorem mocodem_759 (b s : Nat) : xall (fun _ a => xBm a) 2 b s codem_759 := And.intro (mocodem_757 b (2 * s)) (mocodem_758 (b + s) (2 * s))
theorem mocodem_760 (b s : Nat) : xall (fun _ a => xBm a) 3 b s codem_760 := And.intro (mocodem_756 b (2 * s)) (mocodem_759 (b + s) (2 * s))
theorem mocodem_761 (b s : Nat) : xall (fun _ a => xBm a) 4 b s codem_761 := And.intro (mocodem_753 b (2 * s)) (mocodem_760 (b + s) (2 * s))
theorem mocodem_762 (b s : Nat) : xall (fun _ a => xBm a) 5 b s codem_762 := And.intro (mocodem_746 b (2 * s)) (mocodem_761 (b + s) (2 * s))
theorem mocodem_763 (b s : Nat) : xall (fun _ a => xBm a) 6 b s codem_763 := And.intro (mocodem_731 b (2 * s)) (mocodem_762 (b + s) (2 * s))
theorem mocodem_764 (b s : Nat) : xall (fun _ a => xBm a) 7 b s codem_764 := And.intro (mocodem_700 b (2 * s)) (mocodem_763 (b + s) (2 * s))
theorem mocodem_765 (b s : Nat) : xall (fun _ a => xBm a) 8 b s codem_765 := And.intro (mocodem_637 b (2 * s)) (mocodem_764 (b + s) (2 * s))
theorem mocodem_766 (b s : Nat) : xall (fun _ a => xBm a) 1 b s codem_766 := And.intro mobm_3 mobm_515
theorem mocodem_767 (b s : Nat) : xall (fun _ a => xBm a) 1 b s codem_767 := And.intro mobm_259 mobm_771
theorem mocodem_768 (b s : Nat) : xall (fun _ a => xBm a) 2 b s codem_768 := And.intro (mocodem_766 b (2 * s)) (mocodem_767 (b + s) (2 * s))
theorem mocodem_769 (b s : Nat) : xall (fun _ a => xBm a) 1 b s codem_769 := And.intro mobm_131 mobm_643
theorem mocodem_770 (b s : Nat) : xall (fun _ a => xBm a) 1 b s codem_770 := And.intro mobm_387 mobm_899
theorem mocodem_771 (b s : Nat) : xall (fun _ a => xBm a) 2 b s codem_771 := And.intro (mocodem_769 b (2 * s)) (mocodem_770 (b + s) (2 * s))
theorem mocodem_772 (b s : Nat) : xall (fun _ a => xBm a) 3 b s codem_772 := And.intro (mocodem_768 b (2 * s)) (mocodem_771 (b + s) (2 * s))
theorem mocodem_773 (b s : Nat) : xall (fun _ a => xBm a) 1 b s codem_773 := And.intro mobm_67 mobm_579
theorem mocodem_774 (b s : Nat) : xall (fun _ a => xBm a) 1 b s codem_774 := And.intro mobm_323 mobm_835
theorem mocodem_775 (b s : Nat) : xall (fun _ a => xBm a) 2 b s codem_775 := And.intro (mocodem_773 b (2 * s)) (mocodem_774 (b + s) (2 * s))
theorem mocodem_776 (b s : Nat) : xall (fun _ a => xBm a) 1 b s codem_776 := And.intro mobm_195 mobm_707
theorem mocodem_777 (b s : Nat) : xall (fun _ a => xBm a) 1 b s codem_777 := And.intro mobm_451 mobm_no
theorem mocodem_778 (b s : Nat) : xall (fun _ a => xBm a) 2 b s codem_778 := And.intro (mocodem_776 b (2 * s)) (mocodem_777 (b + s) (2 * s))
theorem mocodem_779 (b s : Nat) : xall (fun _ a => xBm a) 3 b s codem_779 := And.intro (mocodem_775 b (2 * s)) (mocodem_778 (b + s) (2 * s))
theorem mocodem_780 (b s : Nat) : xall (fun _ a => xBm a) 4 b s codem_780 := And.intro (mocodem_772 b (2 * s)) (mocodem_779 (b + s) (2 * s))
theorem mocodem_781 (b s : Nat) : xall (fun _ a => xBm a) 1 b s codem_781 := And.intro mobm_35 mobm_547
theorem mocodem_782 (b s : Nat) : xall (fun _ a => xBm a) 1 b s codem_782 := And.intro mobm_291 mobm_803
theorem mocodem_783 (b s : Nat) : xall (fun _ a => xBm a) 2 b s codem_783 := And.intro (mocodem_781 b (2 * s)) (mocodem_782 (b + s) (2 * s))
theorem mocodem_784 (b s : Nat) : xall (fun _ a => xBm a) 1 b s codem_784 := And.intro mobm_163 mobm_675
theorem mocodem_785 (b s : Nat) : xall (fun _ a => xBm a) 1 b s codem_785 := And.intro mobm_419 mobm_931
theorem mocodem_786 (b s : Nat) : xall (fun _ a => xBm a) 2 b s codem_786 := And.intro (mocodem_784 b (2 * s)) (mocodem_785 (b + s) (2 * s))
theorem mocodem_787 (b s : Nat) : xall (fun _ a => xBm a) 3 b s codem_787 := And.intro (mocodem_783 b (2 * s)) (mocodem_786 (b + s) (2 * s))
theorem mocodem_788 (b s : Nat) : xall (fun _ a => xBm a) 1 b s codem_788 := And.intro mobm_99 mobm_611
theorem mocodem_789 (b s : Nat) : xall (fun _ a => xBm a) 1 b s codem_789 := And.intro mobm_355 mobm_867
theorem mocodem_790 (b s : Nat) : xall (fun _ a => xBm a) 2 b s codem_790 := And.intro (mocodem_788 b (2 * s)) (mocodem_789 (b + s) (2 * s))
theorem mocodem_791 (b s : Nat) : xall (fun _ a => xBm a) 1 b s codem_791 := And.intro mobm_227 mobm_739
theorem mocodem_792 (b s : Nat) : xall (fun _ a => xBm a) 1 b s codem_792 := And.intro mobm_483 mobm_no
theorem mocodem_793 (b s : Nat) : xall (fun _ a => xBm a) 2 b s codem_793 := And.intro (mocodem_791 b (2 * s)) (mocodem_792 (b + s) (2 * s))
theorem mocodem_794 (b s : Nat) : xall (fun _ a => xBm a) 3 b s codem_794 := And.intro (mocodem_790 b (2 * s)) (mocodem_793 (b + s) (2 * s))
theorem mocodem_795 (b s : Nat) : xall (fun _ a => xBm a) 4 b s codem_795 := And.intro (mocodem_787 b (2 * s)) (mocodem_794 (b + s) (2 * s))
theorem mocodem_796 (b s : Nat) : xall (fun _ a => xBm a) 5 b s codem_796 := And.intro (mocodem_780 b (2 * s)) (mocodem_795 (b + s) (2 * s))
theorem mocodem_797 (b s : Nat) : xall (fun _ a => xBm a) 1 b s codem_797 := And.intro mobm_19 mobm_531
theorem mocodem_798 (b s : Nat) : xall (fun _ a => xBm a) 1 b s codem_798 := And.intro mobm_275 mobm_787
theorem mocodem_799 (b s : Nat) : xall (fun _ a => xBm a) 2 b s codem_799 := And.intro (mocodem_797 b (2 * s)) (mocodem_798 (b + s) (2 * s))
theorem mocodem_800 (b s : Nat) : xall (fun _ a => xBm a) 1 b s codem_800 := And.intro mobm_147 mobm_659
theorem mocodem_801 (b s : Nat) : xall (fun _ a => xBm a) 1 b s codem_801 := And.intro mobm_403 mobm_915
theorem mocodem_802 (b s : Nat) : xall (fun _ a => xBm a) 2 b s codem_802 := And.intro (mocodem_800 b (2 * s)) (mocodem_801 (b + s) (2 * s))
theorem mocodem_803 (b s : Nat) : xall (fun _ a => xBm a) 3 b s codem_803 := And.intro (mocodem_799 b (2 * s)) (mocodem_802 (b + s) (2 * s))
theorem mocodem_804 (b s : Nat) : xall (fun _ a => xBm a) 1 b s codem_804 := And.intro mobm_83 mobm_595
theorem mocodem_805 (b s : Nat) : xall (fun _ a => xBm a) 1 b s codem_805 := And.intro mobm_339 mobm_851
theorem mocodem_806 (b s : Nat) : xall (fun _ a => xBm a) 2 b s codem_806 := And.intro (mocodem_804 b (2 * s)) (mocodem_805 (b + s) (2 * s))
theorem mocodem_807 (b s : Nat) : xall (fun _ a => xBm a) 1 b s codem_807 := And.intro mobm_211 mobm_723
theorem mocodem_808 (b s : Nat) : xall (fun _ a => xBm a) 1 b s codem_808 := And.intro mobm_467 mobm_no
theorem mocodem_809 (b s : Nat) : xall (fun _ a => xBm a) 2 b s codem_809 := And.intro (mocodem_807 b (2 * s)) (mocodem_808 (b + s) (2 * s))
theorem mocodem_810 (b s : Nat) : xall (fun _ a => xBm a) 3 b s codem_810 := And.intro (mocodem_806 b (2 * s)) (mocodem_809 (b + s) (2 * s))
theorem mocodem_811 (b s : Nat) : xall (fun _ a => xBm a) 4 b s codem_811 := And.intro (mocodem_803 b (2 * s)) (mocodem_810 (b + s) (2 * s))
theorem mocodem_812 (b s : Nat) : xall (fun _ a => xBm a) 1 b s codem_812 := And.intro mobm_51 mobm_563
theorem mocodem_813 (b s : Nat) : xall (fun _ a => xBm a) 1 b s codem_813 := And.intro mobm_307 mobm_819
theorem mocodem_814 (b s : Nat) : xall (fun _ a => xBm a) 2 b s codem_814 := And.intro (mocodem_812 b (2 * s)) (mocodem_813 (b + s) (2 * s))
theorem mocodem_815 (b s : Nat) : xall (fun _ a => xBm a) 1 b s codem_815 := And.intro mobm_179 mobm_691
theorem mocodem_816 (b s : Nat) : xall (fun _ a => xBm a) 1 b s codem_816 := And.intro mobm_435 mobm_947
theorem mocodem_817 (b s : Nat) : xall (fun _ a => xBm a) 2 b s codem_817 := And.intro (mocodem_815 b (2 * s)) (mocodem_816 (b + s) (2 * s))
theorem mocodem_818 (b s : Nat) : xall (fun _ a => xBm a) 3 b s codem_818 := And.intro (mocodem_814 b (2 * s)) (mocodem_817 (b + s) (2 * s))
theorem mocodem_819 (b s : Nat) : xall (fun _ a => xBm a) 1 b s codem_819 := And.intro mobm_115 mobm_627
theorem mocodem_820 (b s : Nat) : xall (fun _ a => xBm a) 1 b s codem_820 := And.intro mobm_371 mobm_883
theorem mocodem_821 (b s : Nat) : xall (fun _ a => xBm a) 2 b s codem_821 := And.intro (mocodem_819 b (2 * s)) (mocodem_820 (b + s) (2 * s))
theorem mocodem_822 (b s : Nat) : xall (fun _ a => xBm a) 1 b s codem_822 := And.intro mobm_243 mobm_755
theorem mocodem_823 (b s : Nat) : xall (fun _ a => xBm a) 1 b s codem_823 := And.intro mobm_499 mobm_no
theorem mocodem_824 (b s : Nat) : xall (fun _ a => xBm a) 2 b s codem_824 := And.intro (mocodem_822 b (2 * s)) (mocodem_823 (b + s) (2 * s))
theorem mocodem_825 (b s : Nat) : xall (fun _ a => xBm a) 3 b s codem_825 := And.intro (mocodem_821 b (2 * s)) (mocodem_824 (b + s) (2 * s))
theorem mocodem_826 (b s : Nat) : xall (fun _ a => xBm a) 4 b s codem_826 := And.intro (mocodem_818 b (2 * s)) (mocodem_825 (b + s) (2 * s))
theorem mocodem_827 (b s : Nat) : xall (fun _ a => xBm a) 5 b s codem_827 := And.intro (mocodem_811 b (2 * s)) (mocodem_826 (b + s) (2 * s))
theorem mocodem_828 (b s : Nat) : xall (fun _ a => xBm a) 6 b s codem_828 := And.intro (mocodem_796 b (2 * s)) (mocodem_827 (b + s) (2 * s))
theorem mocodem_829 (b s : Nat) : xall (fun _ a => xBm a) 1 b s codem_829 := And.intro mobm_11 mobm_523
theorem mocodem_830 (b s : Nat) : xall (fun _ a => xBm a) 1 b s codem_830 := And.intro mobm_267 mobm_779
theorem mocodem_831 (b s : Nat) : xall (fun _ a => xBm a) 2 b s codem_831 := And.intro (mocodem_829 b (2 * s)) (mocodem_830 (b + s) (2 * s))
theorem mocodem_832 (b s : Nat) : xall (fun _ a => xBm a) 1 b s codem_832 := And.intro mobm_139 mobm_651
theorem mocodem_833 (b s : Nat) : xall (fun _ a => xBm a) 1 b s codem_833 := And.intro mobm_395 mobm_907
theorem mocodem_834 (b s : Nat) : xall (fun _ a => xBm a) 2 b s codem_834 := And.intro (mocodem_832 b (2 * s)) (mocodem_833 (b + s) (2 * s))
theorem mocodem_835 (b s : Nat) : xall (fun _ a => xBm a) 3 b s codem_835 := And.intro (mocodem_831 b (2 * s)) (mocodem_834 (b + s) (2 * s))
theorem mocodem_836 (b s : Nat) : xall (fun _ a => xBm a) 1 b s codem_836 := And.intro mobm_75 mobm_587
theorem mocodem_837 (b s : Nat) : xall (fun _ a => xBm a) 1 b s codem_837 := And.intro mobm_331 mobm_843
theorem mocodem_838 (b s : Nat) : xall (fun _ a => xBm a) 2 b s codem_838 := And.intro (mocodem_836 b (2 * s)) (mocodem_837 (b + s) (2 * s))
theorem mocodem_839 (b s : Nat) : xall (fun _ a => xBm a) 1 b s codem_839 := And.intro mobm_203 mobm_715
theorem mocodem_840 (b s : Nat) : xall (fun _ a => xBm a) 1 b s codem_840 := And.intro mobm_459 mobm_no
theorem mocodem_841 (b s : Nat) : xall (fun _ a => xBm a) 2 b s codem_841 := And.intro (mocodem_839 b (2 * s)) (mocodem_840 (b + s) (2 * s))
theorem mocodem_842 (b s : Nat) : xall (fun _ a => xBm a) 3 b s codem_842 := And.intro (mocodem_838 b (2 * s)) (mocodem_841 (b + s) (2 * s))
theorem mocodem_843 (b s : Nat) : xall (fun _ a => xBm a) 4 b s codem_843 := And.intro (mocodem_835 b (2 * s)) (mocodem_842 (b + s) (2 * s))
theorem mocodem_844 (b s : Nat) : xall (fun _ a => xBm a) 1 b s codem_844 := And.intro mobm_43 mobm_555
theorem mocodem_845 (b s : Nat) : xall (fun _ a => xBm a) 1 b s codem_845 := And.intro mobm_299 mobm_811
theorem mocodem_846 (b s : Nat) : xall (fun _ a => xBm a) 2 b s codem_846 := And.intro (mocodem_844 b (2 * s)) (mocodem_845 (b + s) (2 * s))
theorem mocodem_847 (b s : Nat) : xall (fun _ a => xBm a) 1 b s codem_847 := And.intro mobm_171 mobm_683
theorem mocodem_848 (b s : Nat) : xall (fun _ a => xBm a) 1 b s codem_848 := And.intro mobm_427 mobm_939
theorem mocodem_849 (b s : Nat) : xall (fun _ a => xBm a) 2 b s codem_849 := And.intro (mocodem_847 b (2 * s)) (mocodem_848 (b + s) (2 * s))
theorem mocodem_850 (b s : Nat) : xall (fun _ a => xBm a) 3 b s codem_850 := And.intro (mocodem_846 b (2 * s)) (mocodem_849 (b + s) (2 * s))
theorem mocodem_851 (b s : Nat) : xall (fun _ a => xBm a) 1 b s codem_851 := And.intro mobm_107 mobm_619
theorem mocodem_852 (b s : Nat) : xall (fun _ a => xBm a) 1 b s codem_852 := And.intro mobm_363 mobm_875
theorem mocodem_853 (b s : Nat) : xall (fun _ a => xBm a) 2 b s codem_853 := And.intro (mocodem_851 b (2 * s)) (mocodem_852 (b + s) (2 * s))
theorem mocodem_854 (b s : Nat) : xall (fun _ a => xBm a) 1 b s codem_854 := And.intro mobm_235 mobm_747
theorem mocodem_855 (b s : Nat) : xall (fun _ a => xBm a) 1 b s codem_855 := And.intro mobm_491 mobm_no
theorem mocodem_856 (b s : Nat) : xall (fun _ a => xBm a) 2 b s codem_856 := And.intro (mocodem_854 b (2 * s)) (mocodem_855 (b + s) (2 * s))
theorem mocodem_857 (b s : Nat) : xall (fun _ a => xBm a) 3 b s codem_857 := And.intro (mocodem_853 b (2 * s)) (mocodem_856 (b + s) (2 * s))
theorem mocodem_858 (b s : Nat) : xall (fun _ a => xBm a) 4 b s codem_858 := And.intro (mocodem_850 b (2 * s)) (mocodem_857 (b + s) (2 * s))
theorem mocodem_859 (b s : Nat) : xall (fun _ a => xBm a) 5 b s codem_859 := And.intro (mocodem_843 b (2 * s)) (mocodem_858 (b + s) (2 * s))
theorem mocodem_860 (b s : Nat) : xall (fun _ a => xBm a) 1 b s codem_860 := And.intro mobm_27 mobm_539
theorem mocodem_861 (b s : Nat) : xall (fun _ a => xBm a) 1 b s codem_861 := And.intro mobm_283 mobm_795
theorem mocodem_862 (b s : Nat) : xall (fun _ a => xBm a) 2 b s codem_862 := And.intro (mocodem_860 b (2 * s)) (mocodem_861 (b + s) (2 * s))
theorem mocodem_863 (b s : Nat) : xall (fun _ a => xBm a) 1 b s codem_863 := And.intro mobm_155 mobm_667
theorem mocodem_864 (b s : Nat) : xall (fun _ a => xBm a) 1 b s codem_864 := And.intro mobm_411 mobm_923
theorem mocodem_865 (b s : Nat) : xall (fun _ a => xBm a) 2 b s codem_865 := And.intro (mocodem_863 b (2 * s)) (mocodem_864 (b + s) (2 * s))
theorem mocodem_866 (b s : Nat) : xall (fun _ a => xBm a) 3 b s codem_866 := And.intro (mocodem_862 b (2 * s)) (mocodem_865 (b + s) (2 * s))
theorem mocodem_867 (b s : Nat) : xall (fun _ a => xBm a) 1 b s codem_867 := And.intro mobm_91 mobm_603
theorem mocodem_868 (b s : Nat) : xall (fun _ a => xBm a) 1 b s codem_868 := And.intro mobm_347 mobm_859
theorem mocodem_869 (b s : Nat) : xall (fun _ a => xBm a) 2 b s codem_869 := And.intro (mocodem_867 b (2 * s)) (mocodem_868 (b + s) (2 * s))
theorem mocodem_870 (b s : Nat) : xall (fun _ a => xBm a) 1 b s codem_870 := And.intro mobm_219 mobm_731
theorem mocodem_871 (b s : Nat) : xall (fun _ a => xBm a) 1 b s codem_871 := And.intro mobm_475 mobm_no
theorem mocodem_872 (b s : Nat) : xall (fun _ a => xBm a) 2 b s codem_872 := And.intro (mocodem_870 b (2 * s)) (mocodem_871 (b + s) (2 * s))
theorem mocodem_873 (b s : Nat) : xall (fun _ a => xBm a) 3 b s codem_873 := And.intro (mocodem_869 b (2 * s)) (mocodem_872 (b + s) (2 * s))
theorem mocodem_874 (b s : Nat) : xall (fun _ a => xBm a) 4 b s codem_874 := And.intro (mocodem_866 b (2 * s)) (mocodem_873 (b + s) (2 * s))
theorem mocodem_875 (b s : Nat) : xall (fun _ a => xBm a) 1 b s codem_875 := And.intro mobm_59 mobm_571
theorem mocodem_876 (b s : Nat) : xall (fun _ a => xBm a) 1 b s codem_876 := And.intro mobm_315 mobm_827
theorem mocodem_877 (b s : Nat) : xall (fun _ a => xBm a) 2 b s codem_877 := And.intro (mocodem_875 b (2 * s)) (mocodem_876 (b + s) (2 * s))
theorem mocodem_878 (b s : Nat) : xall (fun _ a => xBm a) 1 b s codem_878 := And.intro mobm_187 mobm_699
theorem mocodem_879 (b s : Nat) : xall (fun _ a => xBm a) 1 b s codem_879 := And.intro mobm_443 mobm_955
theorem mocodem_880 (b s : Nat) : xall (fun _ a => xBm a) 2 b s codem_880 := And.intro (mocodem_878 b (2 * s)) (mocodem_879 (b + s) (2 * s))
theorem mocodem_881 (b s : Nat) : xall (fun _ a => xBm a) 3 b s codem_881 := And.intro (mocodem_877 b (2 * s)) (mocodem_880 (b + s) (2 * s))
theorem mocodem_882 (b s : Nat) : xall (fun _ a => xBm a) 1 b s codem_882 := And.intro mobm_123 mobm_635
theorem mocodem_883 (b s : Nat) : xall (fun _ a => xBm a) 1 b s codem_883 := And.intro mobm_379 mobm_891
theorem mocodem_884 (b s : Nat) : xall (fun _ a => xBm a) 2 b s codem_884 := And.intro (mocodem_882 b (2 * s)) (mocodem_883 (b + s) (2 * s))
theorem mocodem_885 (b s : Nat) : xall (fun _ a => xBm a) 1 b s codem_885 := And.intro mobm_251 mobm_763
theorem mocodem_886 (b s : Nat) : xall (fun _ a => xBm a) 1 b s codem_886 := And.intro mobm_507 mobm_no
theorem mocodem_887 (b s : Nat) : xall (fun _ a => xBm a) 2 b s codem_887 := And.intro (mocodem_885 b (2 * s)) (mocodem_886 (b + s) (2 * s))
theorem mocodem_888 (b s : Nat) : xall (fun _ a => xBm a) 3 b s codem_888 := And.intro (mocodem_884 b (2 * s)) (mocodem_887 (b + s) (2 * s))
theorem mocodem_889 (b s : Nat) : xall (fun _ a => xBm a) 4 b s codem_889 := And.intro (mocodem_881 b (2 * s)) (mocodem_888 (b + s) (2 * s))
theorem mocodem_890 (b s : Nat) : xall (fun _ a => xBm a) 5 b s codem_890 := And.intro (mocodem_874 b (2 * s)) (mocodem_889 (b + s) (2 * s))
theorem mocodem_891 (b s : Nat) : xall (fun _ a => xBm a) 6 b s codem_891 := And.intro (mocodem_859 b (2 * s)) (mocodem_890 (b + s) (2 * s))
theorem mocodem_892 (b s : Nat) : xall (fun _ a => xBm a) 7 b s codem_892 := And.intro (mocodem_828 b (2 * s)) (mocodem_891 (b + s) (2 * s))
theorem mocodem_893 (b s : Nat) : xall (fun _ a => xBm a) 1 b s codem_893 := And.intro mobm_7 mobm_519
theorem mocodem_894 (b s : Nat) : xall (fun _ a => xBm a) 1 b s codem_894 := And.intro mobm_263 mobm_775
theorem mocodem_895 (b s : Nat) : xall (fun _ a => xBm a) 2 b s codem_895 := And.intro (mocodem_893 b (2 * s)) (mocodem_894 (b + s) (2 * s))
theorem mocodem_896 (b s : Nat) : xall (fun _ a => xBm a) 1 b s codem_896 := And.intro mobm_135 mobm_647
theorem mocodem_897 (b s : Nat) : xall (fun _ a => xBm a) 1 b s codem_897 := And.intro mobm_391 mobm_903
theorem mocodem_898 (b s : Nat) : xall (fun _ a => xBm a) 2 b s codem_898 := And.intro (mocodem_896 b (2 * s)) (mocodem_897 (b + s) (2 * s))
theorem mocodem_899 (b s : Nat) : xall (fun _ a => xBm a) 3 b s codem_899 := And.intro (mocodem_895 b (2 * s)) (mocodem_898 (b + s) (2 * s))
theorem mocodem_900 (b s : Nat) : xall (fun _ a => xBm a) 1 b s codem_900 := And.intro mobm_71 mobm_583
theorem mocodem_901 (b s : Nat) : xall (fun _ a => xBm a) 1 b s codem_901 := And.intro mobm_327 mobm_839
theorem mocodem_902 (b s : Nat) : xall (fun _ a => xBm a) 2 b s codem_902 := And.intro (mocodem_900 b (2 * s)) (mocodem_901 (b + s) (2 * s))
theorem mocodem_903 (b s : Nat) : xall (fun _ a => xBm a) 1 b s codem_903 := And.intro mobm_199 mobm_711
theorem mocodem_904 (b s : Nat) : xall (fun _ a => xBm a) 1 b s codem_904 := And.intro mobm_455 mobm_no
theorem mocodem_905 (b s : Nat) : xall (fun _ a => xBm a) 2 b s codem_905 := And.intro (mocodem_903 b (2 * s)) (mocodem_904 (b + s) (2 * s))
theorem mocodem_906 (b s : Nat) : xall (fun _ a => xBm a) 3 b s codem_906 := And.intro (mocodem_902 b (2 * s)) (mocodem_905 (b + s) (2 * s))
theorem mocodem_907 (b s : Nat) : xall (fun _ a => xBm a) 4 b s codem_907 := And.intro (mocodem_899 b (2 * s)) (mocodem_906 (b + s) (2 * s))
theorem mocodem_908 (b s : Nat) : xall (fun _ a => xBm a) 1 b s codem_908 := And.intro mobm_39 mobm_551
theorem mocodem_909 (b s : Nat) : xall (fun _ a => xBm a) 1 b s codem_909 := And.intro mobm_295 mobm_807
theorem mocodem_910 (b s : Nat) : xall (fun _ a => xBm a) 2 b s codem_910 := And.intro (mocodem_908 b (2 * s)) (mocodem_909 (b + s) (2 * s))
theorem mocodem_911 (b s : Nat) : xall (fun _ a => xBm a) 1 b s codem_911 := And.intro mobm_167 mobm_679
theorem mocodem_912 (b s : Nat) : xall (fun _ a => xBm a) 1 b s codem_912 := And.intro mobm_423 mobm_935
theorem mocodem_913 (b s : Nat) : xall (fun _ a => xBm a) 2 b s codem_913 := And.intro (mocodem_911 b (2 * s)) (mocodem_912 (b + s) (2 * s))
theorem mocodem_914 (b s : Nat) : xall (fun _ a => xBm a) 3 b s codem_914 := And.intro (mocodem_910 b (2 * s)) (mocodem_913 (b + s) (2 * s))
theorem mocodem_915 (b s : Nat) : xall (fun _ a => xBm a) 1 b s codem_915 := And.intro mobm_103 mobm_615
theorem mocodem_916 (b s : Nat) : xall (fun _ a => xBm a) 1 b s codem_916 := And.intro mobm_359 mobm_871
theorem mocodem_917 (b s : Nat) : xall (fun _ a => xBm a) 2 b s codem_917 := And.intro (mocodem_915 b (2 * s)) (mocodem_916 (b + s) (2 * s))
theorem mocodem_918 (b s : Nat) : xall (fun _ a => xBm a) 1 b s codem_918 := And.intro mobm_231 mobm_743
theorem mocodem_919 (b s : Nat) : xall (fun _ a => xBm a) 1 b s codem_919 := And.intro mobm_487 mobm_no
theorem mocodem_920 (b s : Nat) : xall (fun _ a => xBm a) 2 b s codem_920 := And.intro (mocodem_918 b (2 * s)) (mocodem_919 (b + s) (2 * s))
theorem mocodem_921 (b s : Nat) : xall (fun _ a => xBm a) 3 b s codem_921 := And.intro (mocodem_917 b (2 * s)) (mocodem_920 (b + s) (2 * s))
theorem mocodem_922 (b s : Nat) : xall (fun _ a => xBm a) 4 b s codem_922 := And.intro (mocodem_914 b (2 * s)) (mocodem_921 (b + s) (2 * s))
theorem mocodem_923 (b s : Nat) : xall (fun _ a => xBm a) 5 b s codem_923 := And.intro (mocodem_907 b (2 * s)) (mocodem_922 (b + s) (2 * s))
theorem mocodem_924 (b s : Nat) : xall (fun _ a => xBm a) 1 b s codem_924 := And.intro mobm_23 mobm_535
theorem mocodem_925 (b s : Nat) : xall (fun _ a => xBm a) 1 b s codem_925 := And.intro mobm_279 mobm_791
theorem mocodem_926 (b s : Nat) : xall (fun _ a => xBm a) 2 b s codem_926 := And.intro (mocodem_924 b (2 * s)) (mocodem_925 (b + s) (2 * s))
theorem mocodem_927 (b s : Nat) : xall (fun _ a => xBm a) 1 b s codem_927 := And.intro mobm_151 mobm_663
theorem mocodem_928 (b s : Nat) : xall (fun _ a => xBm a) 1 b s codem_928 := And.intro mobm_407 mobm_919
theorem mocodem_929 (b s : Nat) : xall (fun _ a => xBm a) 2 b s codem_929 := And.intro (mocodem_927 b (2 * s)) (mocodem_928 (b + s) (2 * s))
theorem mocodem_930 (b s : Nat) : xall (fun _ a => xBm a) 3 b s codem_930 := And.intro (mocodem_926 b (2 * s)) (mocodem_929 (b + s) (2 * s))
theorem mocodem_931 (b s : Nat) : xall (fun _ a => xBm a) 1 b s codem_931 := And.intro mobm_87 mobm_599
theorem mocodem_932 (b s : Nat) : xall (fun _ a => xBm a) 1 b s codem_932 := And.intro mobm_343 mobm_855
theorem mocodem_933 (b s : Nat) : xall (fun _ a => xBm a) 2 b s codem_933 := And.intro (mocodem_931 b (2 * s)) (mocodem_932 (b + s) (2 * s))
theorem mocodem_934 (b s : Nat) : xall (fun _ a => xBm a) 1 b s codem_934 := And.intro mobm_215 mobm_727
theorem mocodem_935 (b s : Nat) : xall (fun _ a => xBm a) 1 b s codem_935 := And.intro mobm_471 mobm_no
theorem mocodem_936 (b s : Nat) : xall (fun _ a => xBm a) 2 b s codem_936 := And.intro (mocodem_934 b (2 * s)) (mocodem_935 (b + s) (2 * s))
theorem mocodem_937 (b s : Nat) : xall (fun _ a => xBm a) 3 b s codem_937 := And.intro (mocodem_933 b (2 * s)) (mocodem_936 (b + s) (2 * s))
theorem mocodem_938 (b s : Nat) : xall (fun _ a => xBm a) 4 b s codem_938 := And.intro (mocodem_930 b (2 * s)) (mocodem_937 (b + s) (2 * s))
theorem mocodem_939 (b s : Nat) : xall (fun _ a => xBm a) 1 b s codem_939 := And.intro mobm_55 mobm_567
theorem mocodem_940 (b s : Nat) : xall (fun _ a => xBm a) 1 b s codem_940 := And.intro mobm_311 mobm_823
theorem mocodem_941 (b s : Nat) : xall (fun _ a => xBm a) 2 b s codem_941 := And.intro (mocodem_939 b (2 * s)) (mocodem_940 (b + s) (2 * s))
theorem mocodem_942 (b s : Nat) : xall (fun _ a => xBm a) 1 b s codem_942 := And.intro mobm_183 mobm_695
theorem mocodem_943 (b s : Nat) : xall (fun _ a => xBm a) 1 b s codem_943 := And.intro mobm_439 mobm_951
theorem mocodem_944 (b s : Nat) : xall (fun _ a => xBm a) 2 b s codem_944 := And.intro (mocodem_942 b (2 * s)) (mocodem_943 (b + s) (2 * s))
theorem mocodem_945 (b s : Nat) : xall (fun _ a => xBm a) 3 b s codem_945 := And.intro (mocodem_941 b (2 * s)) (mocodem_944 (b + s) (2 * s))
theorem mocodem_946 (b s : Nat) : xall (fun _ a => xBm a) 1 b s codem_946 := And.intro mobm_119 mobm_631
theorem mocodem_947 (b s : Nat) : xall (fun _ a => xBm a) 1 b s codem_947 := And.intro mobm_375 mobm_887
theorem mocodem_948 (b s : Nat) : xall (fun _ a => xBm a) 2 b s codem_948 := And.intro (mocodem_946 b (2 * s)) (mocodem_947 (b + s) (2 * s))
theorem mocodem_949 (b s : Nat) : xall (fun _ a => xBm a) 1 b s codem_949 := And.intro mobm_247 mobm_759
theorem mocodem_950 (b s : Nat) : xall (fun _ a => xBm a) 1 b s codem_950 := And.intro mobm_503 mobm_no
theorem mocodem_951 (b s : Nat) : xall (fun _ a => xBm a) 2 b s codem_951 := And.intro (mocodem_949 b (2 * s)) (mocodem_950 (b + s) (2 * s))
theorem mocodem_952 (b s : Nat) : xall (fun _ a => xBm a) 3 b s codem_952 := And.intro (mocodem_948 b (2 * s)) (mocodem_951 (b + s) (2 * s))
theorem mocodem_953 (b s : Nat) : xall (fun _ a => xBm a) 4 b s codem_953 := And.intro (mocodem_945 b (2 * s)) (mocodem_952 (b + s) (2 * s))
theorem mocodem_954 (b s : Nat) : xall (fun _ a => xBm a) 5 b s codem_954 := And.intro (mocodem_938 b (2 * s)) (mocodem_953 (b + s) (2 * s))
theorem mocodem_955 (b s : Nat) : xall (fun _ a => xBm a) 6 b s codem_955 := And.intro (mocodem_923 b (2 * s)) (mocodem_954 (b + s) (2 * s))
theorem mocodem_956 (b s : Nat) : xall (fun _ a => xBm a) 1 b s codem_956 := And.intro mobm_15 mobm_527
theorem mocodem_957 (b s : Nat) : xall (fun _ a => xBm a) 1 b s codem_957 := And.intro mobm_271 mobm_783
theorem mocodem_958 (b s : Nat) : xall (fun _ a => xBm a) 2 b s codem_958 := And.intro (mocodem_956 b (2 * s)) (mocodem_957 (b + s) (2 * s))
theorem mocodem_959 (b s : Nat) : xall (fun _ a => xBm a) 1 b s codem_959 := And.intro mobm_143 mobm_655
theorem mocodem_960 (b s : Nat) : xall (fun _ a => xBm a) 1 b s codem_960 := And.intro mobm_399 mobm_911
theorem mocodem_961 (b s : Nat) : xall (fun _ a => xBm a) 2 b s codem_961 := And.intro (mocodem_959 b (2 * s)) (mocodem_960 (b + s) (2 * s))
theorem mocodem_962 (b s : Nat) : xall (fun _ a => xBm a) 3 b s codem_962 := And.intro (mocodem_958 b (2 * s)) (mocodem_961 (b + s) (2 * s))
theorem mocodem_963 (b s : Nat) : xall (fun _ a => xBm a) 1 b s codem_963 := And.intro mobm_79 mobm_591
theorem mocodem_964 (b s : Nat) : xall (fun _ a => xBm a) 1 b s codem_964 := And.intro mobm_335 mobm_847
theorem mocodem_965 (b s : Nat) : xall (fun _ a => xBm a) 2 b s codem_965 := And.intro (mocodem_963 b (2 * s)) (mocodem_964 (b + s) (2 * s))
theorem mocodem_966 (b s : Nat) : xall (fun _ a => xBm a) 1 b s codem_966 := And.intro mobm_207 mobm_719
theorem mocodem_967 (b s : Nat) : xall (fun _ a => xBm a) 1 b s codem_967 := And.intro mobm_463 mobm_no
theorem mocodem_968 (b s : Nat) : xall (fun _ a => xBm a) 2 b s codem_968 := And.intro (mocodem_966 b (2 * s)) (mocodem_967 (b + s) (2 * s))
theorem mocodem_969 (b s : Nat) : xall (fun _ a => xBm a) 3 b s codem_969 := And.intro (mocodem_965 b (2 * s)) (mocodem_968 (b + s) (2 * s))
theorem mocodem_970 (b s : Nat) : xall (fun _ a => xBm a) 4 b s codem_970 := And.intro (mocodem_962 b (2 * s)) (mocodem_969 (b + s) (2 * s))
theorem mocodem_971 (b s : Nat) : xall (fun _ a => xBm a) 1 b s codem_971 := And.intro mobm_47 mobm_559
theorem mocodem_972 (b s : Nat) : xall (fun _ a => xBm a) 1 b s codem_972 := And.intro mobm_303 mobm_815
theorem mocodem_973 (b s : Nat) : xall (fun _ a => xBm a) 2 b s codem_973 := And.intro (mocodem_971 b (2 * s)) (mocodem_972 (b + s) (2 * s))
theorem mocodem_974 (b s : Nat) : xall (fun _ a => xBm a) 1 b s codem_974 := And.intro mobm_175 mobm_687
theorem mocodem_975 (b s : Nat) : xall (fun _ a => xBm a) 1 b s codem_975 := And.intro mobm_431 mobm_943
theorem mocodem_976 (b s : Nat) : xall (fun _ a => xBm a) 2 b s codem_976 := And.intro (mocodem_974 b (2 * s)) (mocodem_975 (b + s) (2 * s))
theorem mocodem_977 (b s : Nat) : xall (fun _ a => xBm a) 3 b s codem_977 := And.intro (mocodem_973 b (2 * s)) (mocodem_976 (b + s) (2 * s))
theorem mocodem_978 (b s : Nat) : xall (fun _ a => xBm a) 1 b s codem_978 := And.intro mobm_111 mobm_623
theorem mocodem_979 (b s : Nat) : xall (fun _ a => xBm a) 1 b s codem_979 := And.intro mobm_367 mobm_879
theorem mocodem_980 (b s : Nat) : xall (fun _ a => xBm a) 2 b s codem_980 := And.intro (mocodem_978 b (2 * s)) (mocodem_979 (b + s) (2 * s))
theorem mocodem_981 (b s : Nat) : xall (fun _ a => xBm a) 1 b s codem_981 := And.intro mobm_239 mobm_751
theorem mocodem_982 (b s : Nat) : xall (fun _ a => xBm a) 1 b s codem_982 := And.intro mobm_495 mobm_no
theorem mocodem_983 (b s : Nat) : xall (fun _ a => xBm a) 2 b s codem_983 := And.intro (mocodem_981 b (2 * s)) (mocodem_982 (b + s) (2 * s))
theorem mocodem_984 (b s : Nat) : xall (fun _ a => xBm a) 3 b s codem_984 := And.intro (mocodem_980 b (2 * s)) (mocodem_983 (b + s) (2 * s))
theorem mocodem_985 (b s : Nat) : xall (fun _ a => xBm a) 4 b s codem_985 := And.intro (mocodem_977 b (2 * s)) (mocodem_984 (b + s) (2 * s))
theorem mocodem_986 (b s : Nat) : xall (fun _ a => xBm a) 5 b s codem_986 := And.intro (mocodem_970 b (2 * s)) (mocodem_985 (b + s) (2 * s))
theorem mocodem_987 (b s : Nat) : xall (fun _ a => xBm a) 1 b s codem_987 := And.intro mobm_31 mobm_543
theorem mocodem_988 (b s : Nat) : xall (fun _ a => xBm a) 1 b s codem_988 := And.intro mobm_287 mobm_799
theorem mocodem_989 (b s : Nat) : xall (fun _ a => xBm a) 2 b s codem_989 := And.intro (mocodem_987 b (2 * s)) (mocodem_988 (b + s) (2 * s))
theorem mocodem_990 (b s : Nat) : xall (fun _ a => xBm a) 1 b s codem_990 := And.intro mobm_159 mobm_671
theorem mocodem_991 (b s : Nat) : xall (fun _ a => xBm a) 1 b s codem_991 := And.intro mobm_415 mobm_927
theorem mocodem_992 (b s : Nat) : xall (fun _ a => xBm a) 2 b s codem_992 := And.intro (mocodem_990 b (2 * s)) (mocodem_991 (b + s) (2 * s))
theorem mocodem_993 (b s : Nat) : xall (fun _ a => xBm a) 3 b s codem_993 := And.intro (mocodem_989 b (2 * s)) (mocodem_992 (b + s) (2 * s))
theorem mocodem_994 (b s : Nat) : xall (fun _ a => xBm a) 1 b s codem_994 := And.intro mobm_95 mobm_607
theorem mocodem_995 (b s : Nat) : xall (fun _ a => xBm a) 1 b s codem_995 := And.intro mobm_351 mobm_863
theorem mocodem_996 (b s : Nat) : xall (fun _ a => xBm a) 2 b s codem_996 := And.intro (mocodem_994 b (2 * s)) (mocodem_995 (b + s) (2 * s))
theorem mocodem_997 (b s : Nat) : xall (fun _ a => xBm a) 1 b s codem_997 := And.intro mobm_223 mobm_735
theorem mocodem_998 (b s : Nat) : xall (fun _ a => xBm a) 1 b s codem_998 := And.intro mobm_479 mobm_no
theorem mocodem_999 (b s : Nat) : xall (fun _ a => xBm a) 2 b s codem_999 := And.intro (mocodem_997 b (2 * s)) (mocodem_998 (b + s) (2 * s))
theorem mocodem_1000 (b s : Nat) : xall (fun _ a => xBm a) 3 b s codem_1000 := And.intro (mocodem_996 b (2 * s)) (mocodem_999 (b + s) (2 * s))
theorem mocodem_1001 (b s : Nat) : xall (fun _ a => xBm a) 4 b s codem_1001 := And.intro (mocodem_993 b (2 * s)) (mocodem_1000 (b + s) (2 * s))
theorem mocodem_1002 (b s : Nat) : xall (fun _ a => xBm a) 1 b s codem_1002 := And.intro mobm_63 mobm_575
theorem mocodem_1003 (b s : Nat) : xall (fun _ a => xBm a) 1 b s codem_1003 := And.intro mobm_319 mobm_831
theorem mocodem_1004 (b s : Nat) : xall (fun _ a => xBm a) 2 b s codem_1004 := And.intro (mocodem_1002 b (2 * s)) (mocodem_1003 (b + s) (2 * s))
theorem mocodem_1005 (b s : Nat) : xall (fun _ a => xBm a) 1 b s codem_1005 := And.intro mobm_191 mobm_703
theorem mocodem_1006 (b s : Nat) : xall (fun _ a => xBm a) 1 b s codem_1006 := And.intro mobm_447 mobm_no
theorem mocodem_1007 (b s : Nat) : xall (fun _ a => xBm a) 2 b s codem_1007 := And.intro (mocodem_1005 b (2 * s)) (mocodem_1006 (b + s) (2 * s))
theorem mocodem_1008 (b s : Nat) : xall (fun _ a => xBm a) 3 b s codem_1008 := And.intro (mocodem_1004 b (2 * s)) (mocodem_1007 (b + s) (2 * s))
theorem mocodem_1009 (b s : Nat) : xall (fun _ a => xBm a) 1 b s codem_1009 := And.intro mobm_127 mobm_639
theorem mocodem_1010 (b s : Nat) : xall (fun _ a => xBm a) 1 b s codem_1010 := And.intro mobm_383 mobm_895
theorem mocodem_1011 (b s : Nat) : xall (fun _ a => xBm a) 2 b s codem_1011 := And.intro (mocodem_1009 b (2 * s)) (mocodem_1010 (b + s) (2 * s))
theorem mocodem_1012 (b s : Nat) : xall (fun _ a => xBm a) 1 b s codem_1012 := And.intro mobm_255 mobm_767
theorem mocodem_1013 (b s : Nat) : xall (fun _ a => xBm a) 1 b s codem_1013 := And.intro mobm_511 mobm_no
theorem mocodem_1014 (b s : Nat) : xall (fun _ a => xBm a) 2 b s codem_1014 := And.intro (mocodem_1012 b (2 * s)) (mocodem_1013 (b + s) (2 * s))
theorem mocodem_1015 (b s : Nat) : xall (fun _ a => xBm a) 3 b s codem_1015 := And.intro (mocodem_1011 b (2 * s)) (mocodem_1014 (b + s) (2 * s))
theorem mocodem_1016 (b s : Nat) : xall (fun _ a => xBm a) 4 b s codem_1016 := And.intro (mocodem_1008 b (2 * s)) (mocodem_1015 (b + s) (2 * s))
theorem mocodem_1017 (b s : Nat) : xall (fun _ a => xBm a) 5 b s codem_1017 := And.intro (mocodem_1001 b (2 * s)) (mocodem_1016 (b + s) (2 * s))
theorem mocodem_1018 (b s : Nat) : xall (fun _ a => xBm a) 6 b s codem_1018 := And.intro (mocodem_986 b (2 * s)) (mocodem_1017 (b + s) (2 * s))
theorem mocodem_1019 (b s : Nat) : xall (fun _ a => xBm a) 7 b s codem_1019 := And.intro (mocodem_955 b (2 * s)) (mocodem_1018 (b + s) (2 * s))
theorem mocodem_1020 (b s : Nat) : xall (fun _ a => xBm a) 8 b s codem_1020 := And.intro (mocodem_892 b (2 * s)) (mocodem_1019 (b + s) (2 * s))
theorem mocodem_1021 (b s : Nat) : xall (fun _ a => xBm a) 9 b s codem_1021 := And.intro (mocodem_765 b (2 * s)) (mocodem_1020 (b + s) (2 * s))
theorem mocodem (b s : Nat) : xall (fun _ a => xBm a) 10 b s codem := And.intro (mocodem_510 b (2 * s)) (mocodem_1021 (b + s) (2 * s))
theorem moallm : xCm codem := fun b => xall_one 10 0 1 codem (mocodem 0 1) b
