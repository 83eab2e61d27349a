/-! What a base gives, all blocks keep: by a program (wip/p1/genmono.py). -/
theorem mobz_0 : xBm bz_0 := fun dl fs i1 i2 fin hi => (m_aload (m_obj (m_aload (m_iconst (m_newa (m_putr (m_aload (m_new (m_dup (m_calli hi))))))))))
theorem mobz_1 : xBm bz_1 := fun dl fs i1 i2 fin hi => (m_putr (m_aload (m_new (m_dup (m_calli hi)))))
theorem mobz_2 : xBm bz_2 := fun dl fs i1 i2 fin hi => (m_putr (m_aload (m_new (m_dup (m_calli hi)))))
theorem mobz_3 : xBm bz_3 := fun dl fs i1 i2 fin hi => (m_putr (m_aload (m_new (m_dup (m_aload (m_getr (m_aload (m_getr (m_calli hi)))))))))
theorem mobz_4 : xBm bz_4 := fun dl fs i1 i2 fin hi => (m_putr (m_aload (m_new (m_dup (m_aload (m_getr (m_aload (m_getr (m_calli hi)))))))))
theorem mobz_5 : xBm bz_5 := fun dl fs i1 i2 fin hi => (m_putr (m_aload (m_new (m_dup (m_aload (m_getr (m_aload (m_getr (m_calli hi)))))))))
theorem mobz_6 : xBm bz_6 := fun dl fs i1 i2 fin hi => (m_putr (m_aload (m_new (m_dup (m_aload (m_getr (m_aload (m_getr (m_calli hi)))))))))
theorem mobz_7 : xBm bz_7 := fun dl fs i1 i2 fin hi => (m_putr (m_aload (m_new (m_dup (m_aload (m_getr (m_aload (m_getr (m_calli hi)))))))))
theorem mobz_8 : xBm bz_8 := fun dl fs i1 i2 fin hi => (m_putr (m_aload (m_new (m_dup (m_aload (m_getr (m_aload (m_getr (m_aload (m_getr (m_calli hi)))))))))))
theorem mobz_9 : xBm bz_9 := fun dl fs i1 i2 fin hi => (m_putr (m_aload (m_text (m_callv hi))))
theorem mobz_10 : xBm bz_10 := fun dl fs i1 i2 fin hi => (m_aload (m_getr (m_aload (m_getr (m_aload (m_geti (m_callv hi)))))))
theorem mobz_11 : xBm bz_11 := fun dl fs i1 i2 fin hi => (m_aload (m_text (m_callv hi)))
theorem mobz_12 : xBm bz_12 := fun dl fs i1 i2 fin hi => (m_aload (m_callv hi))
theorem mobz_13 : xBm bz_13 := fun dl fs i1 i2 fin hi => (m_pop (m_aload (m_getr (m_callv hi))))
theorem mobz_14 : xBm bz_14 := fun dl fs i1 i2 fin hi => (m_ret hi)
theorem mobz_15 : xBm bz_15 := fun dl fs i1 i2 fin hi => (m_iload (m_if1 (m_xgo hi) (m_aload (m_getr (m_callv hi)))))
theorem mobz_16 : xBm bz_16 := fun dl fs i1 i2 fin hi => (m_iret hi)
theorem mobz_17 : xBm bz_17 := fun dl fs i1 i2 fin hi => (m_iload (m_iconst (m_if2 (m_xgo hi) (m_aload (m_geti (m_iret hi))))))
theorem mobz_18 : xBm bz_18 := fun dl fs i1 i2 fin hi => (m_iload (m_iconst (m_if2 (m_xgo hi) (m_aload (m_getr (m_geti (m_iret hi)))))))
theorem mobz_19 : xBm bz_19 := fun dl fs i1 i2 fin hi => (m_iload (m_iconst (m_if2 (m_xgo hi) (m_iload (m_iconst (m_if2 (m_xgo hi) (m_aload (m_getr (m_iload (m_callv hi))))))))))
theorem mobz_20 : xBm bz_20 := fun dl fs i1 i2 fin hi => (m_xgo hi)
theorem mobz_21 : xBm bz_21 := fun dl fs i1 i2 fin hi => (m_iconst (m_iret hi))
theorem mobz_22 : xBm bz_22 := fun dl fs i1 i2 fin hi => (m_iret hi)
theorem mobz_23 : xBm bz_23 := fun dl fs i1 i2 fin hi => (m_iload (m_if1 (m_xgo hi) (m_iload (m_aload (m_geti (m_if2 (m_xgo hi) (m_iconst (m_zret hi))))))))
theorem mobz_24 : xBm bz_24 := fun dl fs i1 i2 fin hi => (m_iconst (m_zret hi))
theorem mobz_25 : xBm bz_25 := fun dl fs i1 i2 fin hi => (m_aload (m_iload (m_puti (m_iconst (m_zret hi)))))
theorem mobz_26 : xBm bz_26 := fun dl fs i1 i2 fin hi => (m_aload (m_getr (m_iload (m_callv hi))))
theorem mobz_27 : xBm bz_27 := fun dl fs i1 i2 fin hi => (m_istore (m_iload (m_if1 (m_xgo hi) (m_iconst (m_iret hi)))))
theorem mobz_28 : xBm bz_28 := fun dl fs i1 i2 fin hi => (m_iload (m_tablen (And.intro (m_xgo hi) (And.intro (m_xgo hi) (And.intro (m_xgo hi) (And.intro (m_xgo hi) (And.intro (m_xgo hi) (And.intro (m_xgo hi) True.intro)))))) (m_xgo hi)))
theorem mobz_29 : xBm bz_29 := fun dl fs i1 i2 fin hi => (m_aload (m_getr (m_getr (m_iload (m_ald (m_iret hi))))))
theorem mobz_30 : xBm bz_30 := fun dl fs i1 i2 fin hi => (m_aload (m_getr (m_getr (m_iload (m_ald (m_iret hi))))))
theorem mobz_31 : xBm bz_31 := fun dl fs i1 i2 fin hi => (m_aload (m_getr (m_iload (m_callv hi))))
theorem mobz_32 : xBm bz_32 := fun dl fs i1 i2 fin hi => (m_iret hi)
theorem mobz_33 : xBm bz_33 := fun dl fs i1 i2 fin hi => (m_aload (m_getr (m_iload (m_callv hi))))
theorem mobz_34 : xBm bz_34 := fun dl fs i1 i2 fin hi => (m_iret hi)
theorem mobz_35 : xBm bz_35 := fun dl fs i1 i2 fin hi => (m_aload (m_getr (m_getr (m_iload (m_ald (m_if1 (m_xgo hi) (m_iconst (m_xgo hi))))))))
theorem mobz_36 : xBm bz_36 := fun dl fs i1 i2 fin hi => (m_iconst (m_iret hi))
theorem mobz_37 : xBm bz_37 := fun dl fs i1 i2 fin hi => (m_iret hi)
theorem mobz_38 : xBm bz_38 := fun dl fs i1 i2 fin hi => (m_aload (m_getr (m_getr (m_iload (m_ald (m_if1 (m_xgo hi) (m_iconst (m_xgo hi))))))))
theorem mobz_39 : xBm bz_39 := fun dl fs i1 i2 fin hi => (m_iconst (m_iret hi))
theorem mobz_40 : xBm bz_40 := fun dl fs i1 i2 fin hi => (m_iret hi)
theorem mobz_41 : xBm bz_41 := fun dl fs i1 i2 fin hi => (m_iconst (m_iret hi))
theorem mobz_42 : xBm bz_42 := fun dl fs i1 i2 fin hi => (m_aload (m_geti (m_iret hi)))
theorem mobz_43 : xBm bz_43 := fun dl fs i1 i2 fin hi => (m_aload (m_getr (m_aload (m_getr (m_iload (m_callv hi))))))
theorem mobz_44 : xBm bz_44 := fun dl fs i1 i2 fin hi => (m_aload (m_iconst (m_aload (m_getr (m_geti (m_callv hi))))))
theorem mobz_45 : xBm bz_45 := fun dl fs i1 i2 fin hi => (m_iret hi)
theorem mobz_46 : xBm bz_46 := fun dl fs i1 i2 fin hi => (m_aload (m_geti (m_iconst (m_if2 m_no (m_aload (m_geti (m_iconst (m_if2 (m_xgo hi) m_no))))))))
theorem mobz_47 : xBm bz_47 := fun dl fs i1 i2 fin hi => (m_aload (m_dup (m_geti (m_iconst (m_bin (m_puti (m_aload (m_iload (m_callv hi)))))))))
theorem mobz_48 : xBm bz_48 := fun dl fs i1 i2 fin hi => (m_aload (m_iload (m_callv hi)))
theorem mobz_49 : xBm bz_49 := fun dl fs i1 i2 fin hi => (m_aload (m_iload (m_callv hi)))
theorem mobz_50 : xBm bz_50 := fun dl fs i1 i2 fin hi => (m_aload (m_iload (m_callv hi)))
theorem mobz_51 : xBm bz_51 := fun dl fs i1 i2 fin hi => (m_aload (m_iload (m_callv hi)))
theorem mobz_52 : xBm bz_52 := fun dl fs i1 i2 fin hi => (m_iconst (m_zret hi))
theorem mobz_53 : xBm bz_53 := fun dl fs i1 i2 fin hi => (m_iconst (m_istore (m_iload (m_if1 (m_xgo hi) (m_aload (m_geti (m_iconst (m_if2 (m_xgo hi) (m_aload (m_getr (m_aload (m_geti (m_iload (m_iload (m_ishra (m_un (m_ast (m_aload (m_dup (m_geti (m_iconst (m_bin (m_xgo hi)))))))))))))))))))))))
theorem mobz_54 : xBm bz_54 := fun dl fs i1 i2 fin hi => (m_iload (m_if1 (m_xgo hi) (m_aload (m_geti (m_iconst (m_if2 (m_xgo hi) (m_aload (m_getr (m_aload (m_geti (m_iload (m_iload (m_ishra (m_un (m_ast (m_aload (m_dup (m_geti (m_iconst (m_bin (m_puti (m_iinc (m_xgo hi)))))))))))))))))))))))
theorem mobz_55 : xBm bz_55 := fun dl fs i1 i2 fin hi => (m_ret hi)
theorem mobz_56 : xBm bz_56 := fun dl fs i1 i2 fin hi => (m_aload (m_getr (m_geti (m_if1 m_no (m_aload (m_getr (m_geti (m_if1 m_no (m_aload (m_getr (m_geti (m_if1 m_no (m_aload (m_getr (m_geti (m_if1 (m_xgo hi) m_no))))))))))))))))
theorem mobz_57 : xBm bz_57 := fun dl fs i1 i2 fin hi => (m_iconst (m_zret hi))
theorem mobz_58 : xBm bz_58 := fun dl fs i1 i2 fin hi => (m_aload (m_getr (m_geti (m_istore (m_aload (m_geti (m_istore (m_aload (m_iconst (m_puti (m_aload (m_getr (m_callv hi)))))))))))))
theorem mobz_59 : xBm bz_59 := fun dl fs i1 i2 fin hi => (m_aload (m_iload (m_callv hi)))
theorem mobz_60 : xBm bz_60 := fun dl fs i1 i2 fin hi => (m_istore (m_iconst (m_istore (m_iload (m_if1 (m_xgo hi) (m_aload (m_getr (m_callv hi))))))))
theorem mobz_61 : xBm bz_61 := fun dl fs i1 i2 fin hi => (m_istore (m_xgo hi))
theorem mobz_62 : xBm bz_62 := fun dl fs i1 i2 fin hi => (m_iload (m_if1 (m_xgo hi) (m_aload (m_getr (m_iload (m_callv hi))))))
theorem mobz_63 : xBm bz_63 := fun dl fs i1 i2 fin hi => (m_aload (m_aload (m_getr (m_callv hi))))
theorem mobz_64 : xBm bz_64 := fun dl fs i1 i2 fin hi => (m_aload (m_getr (m_callv hi)))
theorem mobz_65 : xBm bz_65 := fun dl fs i1 i2 fin hi => (m_callv hi)
theorem mobz_66 : xBm bz_66 := fun dl fs i1 i2 fin hi => (m_istore (m_iload (m_if1 (m_xgo hi) (m_aload (m_getr (m_iload (m_callv hi)))))))
theorem mobz_67 : xBm bz_67 := fun dl fs i1 i2 fin hi => (m_aload (m_iconst (m_aload (m_getr (m_geti (m_callv hi))))))
theorem mobz_68 : xBm bz_68 := fun dl fs i1 i2 fin hi => (m_istore (m_iload (m_if1 (m_xgo hi) (m_aload (m_getr (m_aload (m_getr (m_geti (m_callv hi)))))))))
theorem mobz_69 : xBm bz_69 := fun dl fs i1 i2 fin hi => (m_aload (m_iconst (m_aload (m_callv hi))))
theorem mobz_70 : xBm bz_70 := fun dl fs i1 i2 fin hi => (m_if1 (m_xgo hi) m_no)
theorem mobz_71 : xBm bz_71 := fun dl fs i1 i2 fin hi => (m_iconst (m_callv hi))
theorem mobz_72 : xBm bz_72 := fun dl fs i1 i2 fin hi => (m_istore (m_iload (m_if1 m_no (m_aload (m_getr (m_callv hi))))))
theorem mobz_73 : xBm bz_73 := fun dl fs i1 i2 fin hi => (m_iconst (m_iret hi))
theorem mobz_74 : xBm bz_74 := fun dl fs i1 i2 fin hi => (m_aload (m_callv hi))
theorem mobz_75 : xBm bz_75 := fun dl fs i1 i2 fin hi => (m_istore (m_iload (m_if1 (m_xgo hi) m_no)))
theorem mobz_76 : xBm bz_76 := fun dl fs i1 i2 fin hi => (m_aload (m_getr (m_callv hi)))
theorem mobz_77 : xBm bz_77 := fun dl fs i1 i2 fin hi => (m_iconst (m_iret hi))
theorem mobz_78 : xBm bz_78 := fun dl fs i1 i2 fin hi => (m_iload (m_tablen (And.intro (m_xgo hi) (And.intro (m_xgo hi) (And.intro (m_xgo hi) (And.intro (m_xgo hi) (And.intro (m_xgo hi) (And.intro (m_xgo hi) (And.intro (m_xgo hi) True.intro))))))) (m_xgo hi)))
theorem mobz_79 : xBm bz_79 := fun dl fs i1 i2 fin hi => (m_aload (m_iload (m_aload (m_getr (m_iload (m_callv hi))))))
theorem mobz_80 : xBm bz_80 := fun dl fs i1 i2 fin hi => (m_callv hi)
theorem mobz_81 : xBm bz_81 := fun dl fs i1 i2 fin hi => (m_iret hi)
theorem mobz_82 : xBm bz_82 := fun dl fs i1 i2 fin hi => (m_aload (m_getr (m_geti (m_if1 (m_xgo hi) m_no))))
theorem mobz_83 : xBm bz_83 := fun dl fs i1 i2 fin hi => (m_iconst (m_iret hi))
theorem mobz_84 : xBm bz_84 := fun dl fs i1 i2 fin hi => (m_iconst (m_iret hi))
theorem mobz_85 : xBm bz_85 := fun dl fs i1 i2 fin hi => (m_iload (m_if1 (m_xgo hi) (m_iconst (m_iret hi))))
theorem mobz_86 : xBm bz_86 := fun dl fs i1 i2 fin hi => (m_aload (m_getr (m_iconst (m_puti (m_iload (m_if1 (m_xgo hi) (m_aload (m_getr (m_aload (m_getr (m_getr (m_aload (m_getr (m_getr (m_iload (m_ald (m_ald (m_callv hi))))))))))))))))))
theorem mobz_87 : xBm bz_87 := fun dl fs i1 i2 fin hi => (m_xgo hi)
theorem mobz_88 : xBm bz_88 := fun dl fs i1 i2 fin hi => (m_iload (m_iconst (m_if2 (m_xgo hi) (m_aload (m_getr (m_callv hi))))))
theorem mobz_89 : xBm bz_89 := fun dl fs i1 i2 fin hi => (m_aload (m_getr (m_aload (m_getr (m_iload (m_iconst (m_callv hi)))))))
theorem mobz_90 : xBm bz_90 := fun dl fs i1 i2 fin hi => (m_aload (m_getr (m_callv hi)))
theorem mobz_91 : xBm bz_91 := fun dl fs i1 i2 fin hi => (m_xgo hi)
theorem mobz_92 : xBm bz_92 := fun dl fs i1 i2 fin hi => (m_aload (m_getr (m_iload (m_aload (m_getr (m_callv hi))))))
theorem mobz_93 : xBm bz_93 := fun dl fs i1 i2 fin hi => (m_aload (m_getr (m_geti (m_iret hi))))
theorem mobz_94 : xBm bz_94 := fun dl fs i1 i2 fin hi => (m_iload (m_if1 (m_xgo hi) (m_aload (m_iload (m_puti (m_iload (m_iret hi)))))))
theorem mobz_95 : xBm bz_95 := fun dl fs i1 i2 fin hi => (m_iload (m_iret hi))
theorem mobz_96 : xBm bz_96 := fun dl fs i1 i2 fin hi => (m_aload (m_aload (m_callt hi)))
theorem mobz_97 : xBm bz_97 := fun dl fs i1 i2 fin hi => (m_iconst (m_mmin (m_puti (m_iconst (m_istore (m_iload (m_aload (m_geti (m_if2 (m_xgo hi) (m_aload (m_getr (m_iload (m_aload (m_iload (m_callt hi)))))))))))))))
theorem mobz_98 : xBm bz_98 := fun dl fs i1 i2 fin hi => (m_iload (m_aload (m_geti (m_if2 (m_xgo hi) (m_aload (m_getr (m_iload (m_aload (m_iload (m_callt hi))))))))))
theorem mobz_99 : xBm bz_99 := fun dl fs i1 i2 fin hi => (m_un (m_ast (m_iinc (m_xgo hi))))
theorem mobz_100 : xBm bz_100 := fun dl fs i1 i2 fin hi => (m_ret hi)
theorem mobz_101 : xBm bz_101 := fun dl fs i1 i2 fin hi => (m_aload (m_obj (m_aload (m_iconst (m_newa (m_putr (m_aload (m_iconst (m_newa (m_putr (m_aload (m_iconst (m_newa (m_putr (m_aload (m_iconst (m_newa (m_putr (m_aload (m_iconst (m_newa (m_putr (m_xgo hi)))))))))))))))))))))))
theorem mobz_102 : xBm bz_102 := fun dl fs i1 i2 fin hi => (m_aload (m_geti (m_istore (m_iload (m_istore (m_iload (m_if1 (m_xgo hi) m_no)))))))
theorem mobz_103 : xBm bz_103 := fun dl fs i1 i2 fin hi => (m_ret hi)
theorem mobz_104 : xBm bz_104 := fun dl fs i1 i2 fin hi => (m_aload (m_getr (m_iconst (m_aload (m_getr (m_getr (m_iload (m_ald (m_bin (m_ald (m_iconst (m_bin (m_istore (m_iload (m_if1 (m_xgo hi) m_no)))))))))))))))
theorem mobz_105 : xBm bz_105 := fun dl fs i1 i2 fin hi => (m_aload (m_getr (m_getr (m_iload (m_iconst (m_ast (m_aload (m_getr (m_getr (m_iload (m_iload (m_ast (m_ret hi)))))))))))))
theorem mobz_106 : xBm bz_106 := fun dl fs i1 i2 fin hi => (m_aload (m_getr (m_iconst (m_aload (m_getr (m_getr (m_iload (m_ald (m_bin (m_ald (m_iconst (m_bin (m_istore (m_iload (m_if1 (m_xgo hi) m_no)))))))))))))))
theorem mobz_107 : xBm bz_107 := fun dl fs i1 i2 fin hi => (m_aload (m_getr (m_getr (m_iload (m_ald (m_aload (m_getr (m_getr (m_iload (m_ald (m_if2 (m_xgo hi) m_no)))))))))))
theorem mobz_108 : xBm bz_108 := fun dl fs i1 i2 fin hi => (m_aload (m_getr (m_getr (m_iload (m_iconst (m_ast (m_aload (m_getr (m_getr (m_iload (m_iload (m_ast (m_ret hi)))))))))))))
theorem mobz_109 : xBm bz_109 := fun dl fs i1 i2 fin hi => (m_iconst (m_istore (m_aload (m_getr (m_getr (m_iload (m_ald (m_istore (m_iload (m_if1 (m_xgo hi) m_no))))))))))
theorem mobz_110 : xBm bz_110 := fun dl fs i1 i2 fin hi => (m_iload (m_iconst (m_if2 (m_xgo hi) m_no)))
theorem mobz_111 : xBm bz_111 := fun dl fs i1 i2 fin hi => (m_aload (m_getr (m_getr (m_iload (m_ald (m_istore (m_iload (m_if1 (m_xgo hi) (m_aload (m_getr (m_getr (m_iload (m_ald (m_iconst (m_if2 m_no (m_aload (m_getr (m_aload (m_getr (m_getr (m_iload (m_ald (m_xgo hi)))))))))))))))))))))))
theorem mobz_112 : xBm bz_112 := fun dl fs i1 i2 fin hi => (m_iload (m_if1 (m_xgo hi) (m_aload (m_getr (m_getr (m_iload (m_ald (m_iconst (m_if2 m_no (m_aload (m_getr (m_aload (m_getr (m_getr (m_iload (m_ald (m_callv hi)))))))))))))))))
theorem mobz_113 : xBm bz_113 := fun dl fs i1 i2 fin hi => (m_iconst (m_if2 (m_xgo hi) m_no))
theorem mobz_114 : xBm bz_114 := fun dl fs i1 i2 fin hi => (m_aload (m_iload (m_iconst (m_bin (m_aload (m_getr (m_getr (m_iload (m_ald (m_iconst (m_callv hi)))))))))))
theorem mobz_115 : xBm bz_115 := fun dl fs i1 i2 fin hi => (m_aload (m_getr (m_getr (m_iload (m_ald (m_istore (m_xgo hi)))))))
theorem mobz_116 : xBm bz_116 := fun dl fs i1 i2 fin hi => (m_aload (m_iconst (m_callv hi)))
theorem mobz_117 : xBm bz_117 := fun dl fs i1 i2 fin hi => (m_ret hi)
theorem mobz_118 : xBm bz_118 := fun dl fs i1 i2 fin hi => (m_aload (m_geti (m_istore (m_aload (m_getr (m_getr (m_iload (m_ald (m_tablen (And.intro (m_xgo hi) (And.intro (m_xgo hi) (And.intro (m_xgo hi) (And.intro (m_xgo hi) (And.intro (m_xgo hi) (And.intro (m_xgo hi) (And.intro (m_xgo hi) (And.intro m_no (And.intro (m_xgo hi) (And.intro (m_xgo hi) (And.intro m_no (And.intro m_no (And.intro m_no (And.intro m_no (And.intro m_no (And.intro m_no (And.intro m_no True.intro))))))))))))))))) (m_xgo hi))))))))))
theorem mobz_119 : xBm bz_119 := fun dl fs i1 i2 fin hi => (m_aload (m_iload (m_callv hi)))
theorem mobz_120 : xBm bz_120 := fun dl fs i1 i2 fin hi => (m_xgo hi)
theorem mobz_121 : xBm bz_121 := fun dl fs i1 i2 fin hi => (m_aload (m_iload (m_callv hi)))
theorem mobz_122 : xBm bz_122 := fun dl fs i1 i2 fin hi => (m_xgo hi)
theorem mobz_123 : xBm bz_123 := fun dl fs i1 i2 fin hi => (m_aload (m_aload (m_getr (m_getr (m_iload (m_ald (m_callv hi)))))))
theorem mobz_124 : xBm bz_124 := fun dl fs i1 i2 fin hi => (m_aload (m_aload (m_getr (m_getr (m_iload (m_ald (m_callv hi)))))))
theorem mobz_125 : xBm bz_125 := fun dl fs i1 i2 fin hi => (m_xgo hi)
theorem mobz_126 : xBm bz_126 := fun dl fs i1 i2 fin hi => (m_aload (m_aload (m_getr (m_getr (m_iload (m_ald (m_callv hi)))))))
theorem mobz_127 : xBm bz_127 := fun dl fs i1 i2 fin hi => (m_aload (m_iload (m_callv hi)))
theorem mobz_128 : xBm bz_128 := fun dl fs i1 i2 fin hi => (m_xgo hi)
theorem mobz_129 : xBm bz_129 := fun dl fs i1 i2 fin hi => (m_aload (m_iload (m_callv hi)))
theorem mobz_130 : xBm bz_130 := fun dl fs i1 i2 fin hi => (m_xgo hi)
theorem mobz_131 : xBm bz_131 := fun dl fs i1 i2 fin hi => (m_ret hi)
theorem mobz_132 : xBm bz_132 := fun dl fs i1 i2 fin hi => (m_iload (m_istore (m_iload (m_if1 (m_xgo hi) (m_aload (m_iload (m_callv hi)))))))
theorem mobz_133 : xBm bz_133 := fun dl fs i1 i2 fin hi => (m_iload (m_if1 (m_xgo hi) (m_aload (m_iload (m_callv hi)))))
theorem mobz_134 : xBm bz_134 := fun dl fs i1 i2 fin hi => (m_aload (m_getr (m_getr (m_iload (m_ald (m_istore (m_xgo hi)))))))
theorem mobz_135 : xBm bz_135 := fun dl fs i1 i2 fin hi => (m_ret hi)
theorem mobz_136 : xBm bz_136 := fun dl fs i1 i2 fin hi => (m_aload (m_getr (m_iconst (m_aload (m_getr (m_getr (m_iload (m_ald (m_bin (m_ald (m_iconst (m_bin (m_istore (m_iload (m_if1 (m_xgo hi) m_no)))))))))))))))
theorem mobz_137 : xBm bz_137 := fun dl fs i1 i2 fin hi => (m_aload (m_getr (m_getr (m_iload (m_iconst (m_ast (m_aload (m_getr (m_getr (m_iload (m_iload (m_ast (m_ret hi)))))))))))))
theorem mobz_138 : xBm bz_138 := fun dl fs i1 i2 fin hi => (m_aload (m_getr (m_getr (m_iload (m_ald (m_istore (m_aload (m_getr (m_getr (m_iload (m_ald (m_istore (m_aload (m_getr (m_aload (m_getr (m_getr (m_iload (m_ald (m_callv hi))))))))))))))))))))
theorem mobz_139 : xBm bz_139 := fun dl fs i1 i2 fin hi => (m_istore (m_iload (m_iconst (m_if2 (m_xgo hi) m_no))))
theorem mobz_140 : xBm bz_140 := fun dl fs i1 i2 fin hi => (m_aload (m_getr (m_getr (m_iload (m_ald (m_iconst (m_if2 (m_xgo hi) m_no)))))))
theorem mobz_141 : xBm bz_141 := fun dl fs i1 i2 fin hi => (m_aload (m_geti (m_iload (m_if2 (m_xgo hi) (m_iconst (m_xgo hi))))))
theorem mobz_142 : xBm bz_142 := fun dl fs i1 i2 fin hi => (m_iconst (m_istore (m_aload (m_iload (m_puti (m_aload (m_iload (m_callv hi))))))))
theorem mobz_143 : xBm bz_143 := fun dl fs i1 i2 fin hi => (m_istore (m_aload (m_iload (m_puti (m_aload (m_iload (m_callv hi)))))))
theorem mobz_144 : xBm bz_144 := fun dl fs i1 i2 fin hi => (m_if1 (m_xgo hi) m_no)
theorem mobz_145 : xBm bz_145 := fun dl fs i1 i2 fin hi => (m_aload (m_getr (m_iconst (m_iload (m_bin (m_ald (m_iconst (m_bin (m_istore (m_aload (m_getr (m_getr (m_iload (m_ald (m_if1 (m_xgo hi) (m_aload (m_getr (m_getr (m_iload (m_iload (m_ast (m_aload (m_xgo hi)))))))))))))))))))))))
theorem mobz_146 : xBm bz_146 := fun dl fs i1 i2 fin hi => (m_iload (m_if1 (m_xgo hi) m_no))
theorem mobz_147 : xBm bz_147 := fun dl fs i1 i2 fin hi => (m_aload (m_getr (m_getr (m_iload (m_dup2 (m_ald (m_iconst (m_bin (m_ast (m_iload (m_aload (m_getr (m_getr (m_iload (m_ald (m_if2 m_no (m_iload (m_aload (m_getr (m_getr (m_iload (m_ald (m_xgo hi)))))))))))))))))))))))
theorem mobz_148 : xBm bz_148 := fun dl fs i1 i2 fin hi => (m_aload (m_getr (m_getr (m_iload (m_iload (m_ast (m_ret hi)))))))
theorem mobz_149 : xBm bz_149 := fun dl fs i1 i2 fin hi => (m_aload (m_getr (m_getr (m_iload (m_ald (m_istore (m_iload (m_if1 (m_xgo hi) (m_aload (m_getr (m_getr (m_iload (m_ald (m_istore (m_aload (m_getr (m_iconst (m_iload (m_bin (m_ald (m_if1 m_no (m_aload (m_xgo hi)))))))))))))))))))))))
theorem mobz_150 : xBm bz_150 := fun dl fs i1 i2 fin hi => (m_iload (m_if1 (m_xgo hi) (m_aload (m_getr (m_getr (m_iload (m_ald (m_istore (m_aload (m_getr (m_iconst (m_iload (m_bin (m_ald (m_if1 m_no (m_aload (m_iload (m_callv hi))))))))))))))))))
theorem mobz_151 : xBm bz_151 := fun dl fs i1 i2 fin hi => (m_if1 (m_xgo hi) m_no)
theorem mobz_152 : xBm bz_152 := fun dl fs i1 i2 fin hi => (m_aload (m_getr (m_iconst (m_iload (m_bin (m_ald (m_if1 (m_xgo hi) (m_aload (m_getr (m_iconst (m_iload (m_bin (m_aload (m_getr (m_getr (m_iload (m_ald (m_aload (m_getr (m_getr (m_iload (m_ald (m_xgo hi)))))))))))))))))))))))
theorem mobz_153 : xBm bz_153 := fun dl fs i1 i2 fin hi => (m_ast (m_aload (m_getr (m_getr (m_iload (m_ald (m_istore (m_xgo hi))))))))
theorem mobz_154 : xBm bz_154 := fun dl fs i1 i2 fin hi => (m_ret hi)
theorem mobz_155 : xBm bz_155 := fun dl fs i1 i2 fin hi => (m_aload (m_geti (m_istore (m_iconst (m_istore (m_aload (m_aload (m_geti (m_iconst (m_bin (m_aload (m_getr (m_alen (m_iconst (m_bin (m_mmin (m_puti (m_aload (m_getr (m_aload (m_geti (m_iconst (m_xgo hi)))))))))))))))))))))))
theorem mobz_156 : xBm bz_156 := fun dl fs i1 i2 fin hi => (m_iload (m_if1 (m_xgo hi) (m_iinc (m_aload (m_getr (m_getr (m_iload (m_ald (m_iconst (m_if2 (m_xgo hi) (m_aload (m_iload (m_iload (m_callv hi))))))))))))))
theorem mobz_157 : xBm bz_157 := fun dl fs i1 i2 fin hi => (m_aload (m_getr (m_getr (m_iload (m_ald (m_istore (m_xgo hi)))))))
theorem mobz_158 : xBm bz_158 := fun dl fs i1 i2 fin hi => (m_iload (m_iconst (m_if2 (m_xgo hi) m_no)))
theorem mobz_159 : xBm bz_159 := fun dl fs i1 i2 fin hi => (m_aload (m_aload (m_getr (m_getr (m_iload (m_ald (m_callv hi)))))))
theorem mobz_160 : xBm bz_160 := fun dl fs i1 i2 fin hi => (m_aload (m_iload (m_callv hi)))
theorem mobz_161 : xBm bz_161 := fun dl fs i1 i2 fin hi => (m_aload (m_getr (m_getr (m_iload (m_aload (m_getr (m_aload (m_geti (m_ald (m_ast (m_aload (m_dup (m_geti (m_iconst (m_bin (m_puti (m_ret hi)))))))))))))))))
theorem mobz_162 : xBm bz_162 := fun dl fs i1 i2 fin hi => (m_aload (m_aload (m_getr (m_getr (m_aload (m_getr (m_getr (m_iconst (m_ald (m_callv hi))))))))))
theorem mobz_163 : xBm bz_163 := fun dl fs i1 i2 fin hi => (m_iload (m_istore (m_iload (m_if1 (m_xgo hi) (m_aload (m_getr (m_getr (m_iload (m_ald (m_iconst (m_if2 (m_xgo hi) (m_aload (m_iload (m_callv hi))))))))))))))
theorem mobz_164 : xBm bz_164 := fun dl fs i1 i2 fin hi => (m_iload (m_if1 (m_xgo hi) (m_aload (m_getr (m_getr (m_iload (m_ald (m_iconst (m_if2 (m_xgo hi) (m_aload (m_iload (m_callv hi))))))))))))
theorem mobz_165 : xBm bz_165 := fun dl fs i1 i2 fin hi => (m_xgo hi)
theorem mobz_166 : xBm bz_166 := fun dl fs i1 i2 fin hi => (m_aload (m_getr (m_getr (m_iload (m_ald (m_iconst (m_if2 (m_xgo hi) (m_aload (m_iload (m_callv hi))))))))))
theorem mobz_167 : xBm bz_167 := fun dl fs i1 i2 fin hi => (m_aload (m_getr (m_getr (m_iload (m_ald (m_istore (m_xgo hi)))))))
theorem mobz_168 : xBm bz_168 := fun dl fs i1 i2 fin hi => (m_iload (m_istore (m_iload (m_if1 (m_xgo hi) (m_aload (m_getr (m_getr (m_iload (m_ald (m_look (And.intro (And.intro rfl (m_xgo hi)) (And.intro (And.intro rfl (m_xgo hi)) (And.intro (And.intro rfl (m_xgo hi)) True.intro))) (m_xgo hi)))))))))))
theorem mobz_169 : xBm bz_169 := fun dl fs i1 i2 fin hi => (m_iload (m_if1 (m_xgo hi) (m_aload (m_getr (m_getr (m_iload (m_ald (m_look (And.intro (And.intro rfl (m_xgo hi)) (And.intro (And.intro rfl (m_xgo hi)) (And.intro (And.intro rfl (m_xgo hi)) True.intro))) (m_xgo hi)))))))))
theorem mobz_170 : xBm bz_170 := fun dl fs i1 i2 fin hi => (m_aload (m_iload (m_callv hi)))
theorem mobz_171 : xBm bz_171 := fun dl fs i1 i2 fin hi => (m_xgo hi)
theorem mobz_172 : xBm bz_172 := fun dl fs i1 i2 fin hi => (m_aload (m_iload (m_callv hi)))
theorem mobz_173 : xBm bz_173 := fun dl fs i1 i2 fin hi => (m_xgo hi)
theorem mobz_174 : xBm bz_174 := fun dl fs i1 i2 fin hi => (m_aload (m_iload (m_callv hi)))
theorem mobz_175 : xBm bz_175 := fun dl fs i1 i2 fin hi => (m_xgo hi)
theorem mobz_176 : xBm bz_176 := fun dl fs i1 i2 fin hi => (m_aload (m_iload (m_callv hi)))
theorem mobz_177 : xBm bz_177 := fun dl fs i1 i2 fin hi => (m_aload (m_getr (m_getr (m_iload (m_ald (m_istore (m_xgo hi)))))))
theorem mobz_178 : xBm bz_178 := fun dl fs i1 i2 fin hi => (m_iload (m_istore (m_iload (m_if1 (m_xgo hi) (m_aload (m_getr (m_getr (m_iload (m_ald (m_iconst (m_if2 (m_xgo hi) (m_aload (m_iload (m_callv hi))))))))))))))
theorem mobz_179 : xBm bz_179 := fun dl fs i1 i2 fin hi => (m_iload (m_if1 (m_xgo hi) (m_aload (m_getr (m_getr (m_iload (m_ald (m_iconst (m_if2 (m_xgo hi) (m_aload (m_iload (m_callv hi))))))))))))
theorem mobz_180 : xBm bz_180 := fun dl fs i1 i2 fin hi => (m_aload (m_getr (m_getr (m_iload (m_ald (m_istore (m_xgo hi)))))))
theorem mobz_181 : xBm bz_181 := fun dl fs i1 i2 fin hi => (m_ret hi)
theorem mobz_182 : xBm bz_182 := fun dl fs i1 i2 fin hi => (m_aload (m_getr (m_getr (m_iload (m_ald (m_istore (m_aload (m_getr (m_iload (m_ald (m_if1 (m_xgo hi) (m_aload (m_getr (m_aload (m_getr (m_iload (m_ald (m_iconst (m_bin (m_ald (m_istore (m_aload (m_xgo hi)))))))))))))))))))))))
theorem mobz_183 : xBm bz_183 := fun dl fs i1 i2 fin hi => (m_ast (m_ret hi))
theorem mobz_184 : xBm bz_184 := fun dl fs i1 i2 fin hi => (m_aload (m_iload (m_callv hi)))
theorem mobz_185 : xBm bz_185 := fun dl fs i1 i2 fin hi => (m_ret hi)
theorem mobz_186 : xBm bz_186 := fun dl fs i1 i2 fin hi => (m_aload (m_geti (m_istore (m_iconst (m_istore (m_iload (m_istore (m_iload (m_iload (m_if2 (m_xgo hi) (m_aload (m_getr (m_getr (m_iload (m_ald (m_tablen (And.intro (m_xgo hi) (And.intro (m_xgo hi) (And.intro (m_xgo hi) (And.intro (m_xgo hi) (And.intro (m_xgo hi) True.intro))))) (m_xgo hi)))))))))))))))))
theorem mobz_187 : xBm bz_187 := fun dl fs i1 i2 fin hi => (m_iload (m_iload (m_if2 (m_xgo hi) (m_aload (m_getr (m_getr (m_iload (m_ald (m_tablen (And.intro (m_xgo hi) (And.intro (m_xgo hi) (And.intro (m_xgo hi) (And.intro (m_xgo hi) (And.intro (m_xgo hi) True.intro))))) (m_xgo hi))))))))))
theorem mobz_188 : xBm bz_188 := fun dl fs i1 i2 fin hi => (m_aload (m_iload (m_iload (m_callv hi))))
theorem mobz_189 : xBm bz_189 := fun dl fs i1 i2 fin hi => (m_xgo hi)
theorem mobz_190 : xBm bz_190 := fun dl fs i1 i2 fin hi => (m_iinc (m_xgo hi))
theorem mobz_191 : xBm bz_191 := fun dl fs i1 i2 fin hi => (m_iinc (m_aload (m_iload (m_callv hi))))
theorem mobz_192 : xBm bz_192 := fun dl fs i1 i2 fin hi => (m_xgo hi)
theorem mobz_193 : xBm bz_193 := fun dl fs i1 i2 fin hi => (m_iinc (m_xgo hi))
theorem mobz_194 : xBm bz_194 := fun dl fs i1 i2 fin hi => (m_iload (m_iconst (m_if2 (m_xgo hi) m_no)))
theorem mobz_195 : xBm bz_195 := fun dl fs i1 i2 fin hi => (m_ret hi)
theorem mobz_196 : xBm bz_196 := fun dl fs i1 i2 fin hi => (m_aload (m_getr (m_getr (m_iload (m_ald (m_istore (m_aload (m_getr (m_iconst (m_iconst (m_ast (m_aload (m_iload (m_iconst (m_bin (m_aload (m_getr (m_getr (m_iload (m_ald (m_aload (m_getr (m_xgo hi)))))))))))))))))))))))
theorem mobz_197 : xBm bz_197 := fun dl fs i1 i2 fin hi => (m_aload (m_aload (m_getr (m_getr (m_iload (m_ald (m_iconst (m_callv hi))))))))
theorem mobz_198 : xBm bz_198 := fun dl fs i1 i2 fin hi => (m_aload (m_getr (m_getr (m_iload (m_ald (m_iconst (m_if2 m_no (m_aload (m_aload (m_getr (m_getr (m_iload (m_ald (m_callv hi))))))))))))))
theorem mobz_199 : xBm bz_199 := fun dl fs i1 i2 fin hi => (m_xgo hi)
theorem mobz_200 : xBm bz_200 := fun dl fs i1 i2 fin hi => (m_aload (m_iconst (m_callv hi)))
theorem mobz_201 : xBm bz_201 := fun dl fs i1 i2 fin hi => (m_aload (m_getr (m_getr (m_iload (m_aload (m_getr (m_iconst (m_ald (m_ast (m_ret hi))))))))))
theorem mobz_202 : xBm bz_202 := fun dl fs i1 i2 fin hi => (m_iconst (m_istore (m_aload (m_getr (m_getr (m_aload (m_getr (m_getr (m_iload (m_ald (m_ald (m_istore (m_xgo hi)))))))))))))
theorem mobz_203 : xBm bz_203 := fun dl fs i1 i2 fin hi => (m_iload (m_if1 (m_xgo hi) (m_iload (m_iconst (m_if2 (m_xgo hi) (m_aload (m_getr (m_iload (m_iload (m_ast (m_iload (m_iconst (m_bin (m_istore (m_iload (m_if1 (m_xgo hi) (m_aload (m_aload (m_getr (m_iload (m_ald (m_callv hi))))))))))))))))))))))
theorem mobz_204 : xBm bz_204 := fun dl fs i1 i2 fin hi => (m_aload (m_iload (m_callv hi)))
theorem mobz_205 : xBm bz_205 := fun dl fs i1 i2 fin hi => (m_if2 (m_xgo hi) (m_aload (m_aload (m_getr (m_iload (m_ald (m_callv hi)))))))
theorem mobz_206 : xBm bz_206 := fun dl fs i1 i2 fin hi => (m_aload (m_iload (m_callv hi)))
theorem mobz_207 : xBm bz_207 := fun dl fs i1 i2 fin hi => (m_if2 m_no (m_aload (m_aload (m_getr (m_iload (m_ald (m_callv hi)))))))
theorem mobz_208 : xBm bz_208 := fun dl fs i1 i2 fin hi => (m_aload (m_iload (m_callv hi)))
theorem mobz_209 : xBm bz_209 := fun dl fs i1 i2 fin hi => (m_if2 m_no (m_aload (m_iload (m_callv hi))))
theorem mobz_210 : xBm bz_210 := fun dl fs i1 i2 fin hi => (m_iconst (m_if2 (m_xgo hi) m_no))
theorem mobz_211 : xBm bz_211 := fun dl fs i1 i2 fin hi => (m_iinc (m_aload (m_getr (m_getr (m_aload (m_getr (m_getr (m_iload (m_ald (m_ald (m_istore (m_xgo hi))))))))))))
theorem mobz_212 : xBm bz_212 := fun dl fs i1 i2 fin hi => (m_ret hi)
theorem mobz_213 : xBm bz_213 := fun dl fs i1 i2 fin hi => (m_aload (m_getr (m_getr (m_iload (m_ald (m_iconst (m_if2 (m_xgo hi) m_no)))))))
theorem mobz_214 : xBm bz_214 := fun dl fs i1 i2 fin hi => (m_aload (m_iload (m_iconst (m_bin (m_aload (m_getr (m_getr (m_iload (m_ald (m_iconst (m_callv hi)))))))))))
theorem mobz_215 : xBm bz_215 := fun dl fs i1 i2 fin hi => (m_ret hi)
theorem mobz_216 : xBm bz_216 := fun dl fs i1 i2 fin hi => (m_iload (m_istore (m_iload (m_iload (m_if2 (m_xgo hi) (m_aload (m_getr (m_getr (m_iload (m_ald (m_iconst (m_if2 (m_xgo hi) (m_aload (m_getr (m_iconst (m_aload (m_getr (m_getr (m_iload (m_ald (m_bin (m_ald (m_xgo hi)))))))))))))))))))))))
theorem mobz_217 : xBm bz_217 := fun dl fs i1 i2 fin hi => (m_iload (m_iload (m_if2 (m_xgo hi) (m_aload (m_getr (m_getr (m_iload (m_ald (m_iconst (m_if2 (m_xgo hi) (m_aload (m_getr (m_iconst (m_aload (m_getr (m_getr (m_iload (m_ald (m_bin (m_ald (m_istore (m_iload (m_xgo hi)))))))))))))))))))))))
theorem mobz_218 : xBm bz_218 := fun dl fs i1 i2 fin hi => (m_aload (m_getr (m_iload (m_callv hi))))
theorem mobz_219 : xBm bz_219 := fun dl fs i1 i2 fin hi => (m_aload (m_getr (m_getr (m_iload (m_ald (m_if2 (m_xgo hi) m_no))))))
theorem mobz_220 : xBm bz_220 := fun dl fs i1 i2 fin hi => (m_aload (m_getr (m_getr (m_iload (m_iconst (m_ast (m_aload (m_getr (m_getr (m_iload (m_iload (m_ast (m_xgo hi)))))))))))))
theorem mobz_221 : xBm bz_221 := fun dl fs i1 i2 fin hi => (m_iload (m_if1 (m_xgo hi) m_no))
theorem mobz_222 : xBm bz_222 := fun dl fs i1 i2 fin hi => (m_iinc (m_xgo hi))
theorem mobz_223 : xBm bz_223 := fun dl fs i1 i2 fin hi => (m_ret hi)
theorem mobz_224 : xBm bz_224 := fun dl fs i1 i2 fin hi => (m_aload (m_getr (m_getr (m_iload (m_ald (m_istore (m_aload (m_getr (m_aload (m_getr (m_aload (m_getr (m_getr (m_iload (m_ald (m_callv hi))))))))))))))))
theorem mobz_225 : xBm bz_225 := fun dl fs i1 i2 fin hi => (m_iload (m_callv hi))
theorem mobz_226 : xBm bz_226 := fun dl fs i1 i2 fin hi => (m_istore (m_aload (m_getr (m_iconst (m_iload (m_bin (m_ald (m_if1 (m_xgo hi) m_no))))))))
theorem mobz_227 : xBm bz_227 := fun dl fs i1 i2 fin hi => (m_aload (m_getr (m_iconst (m_iload (m_bin (m_iconst (m_iload (m_bin (m_ast (m_aload (m_getr (m_getr (m_iload (m_ald (m_istore (m_xgo hi))))))))))))))))
theorem mobz_228 : xBm bz_228 := fun dl fs i1 i2 fin hi => (m_iload (m_if1 (m_xgo hi) (m_aload (m_getr (m_getr (m_iload (m_ald (m_istore (m_aload (m_getr (m_iload (m_iload (m_aload (m_getr (m_aload (m_getr (m_getr (m_iload (m_ald (m_callv hi))))))))))))))))))))
theorem mobz_229 : xBm bz_229 := fun dl fs i1 i2 fin hi => (m_iload (m_callv hi))
theorem mobz_230 : xBm bz_230 := fun dl fs i1 i2 fin hi => (m_istore (m_aload (m_getr (m_iconst (m_iload (m_bin (m_ald (m_if1 (m_xgo hi) m_no))))))))
theorem mobz_231 : xBm bz_231 := fun dl fs i1 i2 fin hi => (m_aload (m_getr (m_iconst (m_iload (m_bin (m_iload (m_iconst (m_bin (m_ast (m_aload (m_getr (m_getr (m_iload (m_ald (m_istore (m_xgo hi))))))))))))))))
theorem mobz_232 : xBm bz_232 := fun dl fs i1 i2 fin hi => (m_ret hi)
theorem mobz_233 : xBm bz_233 := fun dl fs i1 i2 fin hi => (m_aload (m_getr (m_getr (m_iload (m_ald (m_istore (m_aload (m_getr (m_iconst (m_iload (m_bin (m_ald (m_if1 (m_xgo hi) m_no)))))))))))))
theorem mobz_234 : xBm bz_234 := fun dl fs i1 i2 fin hi => (m_aload (m_getr (m_iconst (m_iload (m_bin (m_iconst (m_aload (m_getr (m_iload (m_aload (m_getr (m_getr (m_iload (m_ald (m_callv hi)))))))))))))))
theorem mobz_235 : xBm bz_235 := fun dl fs i1 i2 fin hi => (m_bin (m_ast (m_ret hi)))
theorem mobz_236 : xBm bz_236 := fun dl fs i1 i2 fin hi => (m_aload (m_getr (m_getr (m_iload (m_ald (m_istore (m_aload (m_getr (m_iload (m_ald (m_iload (m_if2 (m_xgo hi) m_no))))))))))))
theorem mobz_237 : xBm bz_237 := fun dl fs i1 i2 fin hi => (m_aload (m_geti (m_iconst (m_if2 (m_xgo hi) (m_aload (m_getr (m_aload (m_geti (m_iload (m_ast (m_aload (m_getr (m_aload (m_geti (m_aload (m_getr (m_iload (m_ald (m_ast (m_aload (m_dup (m_geti (m_xgo hi)))))))))))))))))))))))
theorem mobz_238 : xBm bz_238 := fun dl fs i1 i2 fin hi => (m_aload (m_getr (m_iconst (m_iload (m_bin (m_ald (m_aload (m_geti (m_if2 m_no (m_iconst (m_xgo hi)))))))))))
theorem mobz_239 : xBm bz_239 := fun dl fs i1 i2 fin hi => (m_zret hi)
theorem mobz_240 : xBm bz_240 := fun dl fs i1 i2 fin hi => (m_aload (m_iload (m_callv hi)))
theorem mobz_241 : xBm bz_241 := fun dl fs i1 i2 fin hi => (m_aload (m_iload (m_callv hi)))
theorem mobz_242 : xBm bz_242 := fun dl fs i1 i2 fin hi => (m_bin (m_istore (m_iload (m_if1 m_no (m_iload (m_if1 (m_xgo hi) (m_aload (m_iload (m_callv hi)))))))))
theorem mobz_243 : xBm bz_243 := fun dl fs i1 i2 fin hi => (m_iconst (m_if2 (m_xgo hi) m_no))
theorem mobz_244 : xBm bz_244 := fun dl fs i1 i2 fin hi => (m_iconst (m_zret hi))
theorem mobz_245 : xBm bz_245 := fun dl fs i1 i2 fin hi => (m_aload (m_getr (m_iconst (m_aload (m_getr (m_getr (m_iload (m_ald (m_iload (m_iload (m_callv hi)))))))))))
theorem mobz_246 : xBm bz_246 := fun dl fs i1 i2 fin hi => (m_istore (m_aload (m_getr (m_getr (m_iload (m_iconst (m_ast (m_aload (m_getr (m_getr (m_iload (m_iload (m_ast (m_aload (m_getr (m_getr (m_iload (m_iconst (m_ast (m_iload (m_iret hi)))))))))))))))))))))
theorem mobz_247 : xBm bz_247 := fun dl fs i1 i2 fin hi => (m_iconst (m_istore (m_iload (m_iconst (m_if2 (m_xgo hi) (m_aload (m_getr (m_iload (m_ald (m_iconst (m_if2 (m_xgo hi) m_no)))))))))))
theorem mobz_248 : xBm bz_248 := fun dl fs i1 i2 fin hi => (m_iload (m_iconst (m_if2 (m_xgo hi) (m_aload (m_getr (m_iload (m_ald (m_iconst (m_if2 (m_xgo hi) m_no)))))))))
theorem mobz_249 : xBm bz_249 := fun dl fs i1 i2 fin hi => (m_iinc (m_xgo hi))
theorem mobz_250 : xBm bz_250 := fun dl fs i1 i2 fin hi => (m_iconst (m_iret hi))
theorem mobz_251 : xBm bz_251 := fun dl fs i1 i2 fin hi => (m_aload (m_geti (m_iload (m_if2 (m_xgo hi) (m_aload (m_dup (m_geti (m_iconst (m_bin (m_puti (m_aload (m_getr (m_aload (m_getr (m_getr (m_aload (m_getr (m_aload (m_geti (m_ald (m_ald (m_aload (m_xgo hi)))))))))))))))))))))))
theorem mobz_252 : xBm bz_252 := fun dl fs i1 i2 fin hi => (m_ret hi)
theorem mobz_253 : xBm bz_253 := fun dl fs i1 i2 fin hi => (m_aload (m_callv hi))
theorem mobz_254 : xBm bz_254 := fun dl fs i1 i2 fin hi => (m_istore (m_iload (m_if1 m_no (m_iconst (m_xgo hi)))))
theorem mobz_255 : xBm bz_255 := fun dl fs i1 i2 fin hi => (m_iret hi)
theorem mobz_256 : xBm bz_256 := fun dl fs i1 i2 fin hi => (m_aload (m_iload (m_callv hi)))
theorem mobz_257 : xBm bz_257 := fun dl fs i1 i2 fin hi => (m_iconst (m_istore (m_iconst (m_istore (m_aload (m_getr (m_iconst (m_aload (m_getr (m_getr (m_iload (m_ald (m_ast (m_aload (m_getr (m_getr (m_aload (m_getr (m_getr (m_iload (m_ald (m_ald (m_xgo hi)))))))))))))))))))))))
theorem mobz_258 : xBm bz_258 := fun dl fs i1 i2 fin hi => (m_iload (m_if1 (m_xgo hi) (m_iload (m_iconst (m_if2 (m_xgo hi) (m_aload (m_getr (m_getr (m_iload (m_ald (m_istore (m_aload (m_getr (m_getr (m_iload (m_ald (m_istore (m_iload (m_if1 (m_xgo hi) (m_aload (m_aload (m_getr (m_xgo hi)))))))))))))))))))))))
theorem mobz_259 : xBm bz_259 := fun dl fs i1 i2 fin hi => (m_if1 (m_xgo hi) m_no)
theorem mobz_260 : xBm bz_260 := fun dl fs i1 i2 fin hi => (m_aload (m_getr (m_iload (m_iload (m_ast (m_iinc (m_aload (m_getr (m_iload (m_iload (m_ast (m_iinc (m_iload (m_istore (m_xgo hi)))))))))))))))
theorem mobz_261 : xBm bz_261 := fun dl fs i1 i2 fin hi => (m_iload (m_iconst (m_if2 (m_xgo hi) (m_iinc (m_iinc (m_aload (m_getr (m_iload (m_iconst (m_bin (m_aload (m_aload (m_getr (m_iload (m_ald (m_aload (m_getr (m_iload (m_iconst (m_bin (m_ald (m_aload (m_xgo hi)))))))))))))))))))))))
theorem mobz_262 : xBm bz_262 := fun dl fs i1 i2 fin hi => (m_ast (m_xgo hi))
theorem mobz_263 : xBm bz_263 := fun dl fs i1 i2 fin hi => (m_aload (m_getr (m_getr (m_aload (m_getr (m_iconst (m_ald (m_aload (m_getr (m_iconst (m_ald (m_ast (m_aload (m_getr (m_getr (m_aload (m_getr (m_iconst (m_ald (m_iconst (m_ast (m_aload (m_xgo hi)))))))))))))))))))))))
theorem mobz_264 : xBm bz_264 := fun dl fs i1 i2 fin hi => (m_aload (m_getr (m_iconst (m_aload (m_getr (m_getr (m_iload (m_ald (m_bin (m_ald (m_istore (m_iload (m_if1 (m_xgo hi) m_no)))))))))))))
theorem mobz_265 : xBm bz_265 := fun dl fs i1 i2 fin hi => (m_iload (m_iconst (m_bin (m_iconst (m_divr (m_iret hi))))))
theorem mobz_266 : xBm bz_266 := fun dl fs i1 i2 fin hi => (m_aload (m_getr (m_getr (m_iload (m_ald (m_if1 (m_xgo hi) (m_aload (m_getr (m_getr (m_iload (m_ald (m_istore (m_aload (m_getr (m_iload (m_dup2 (m_ald (m_iconst (m_bin (m_ast (m_aload (m_getr (m_xgo hi)))))))))))))))))))))))
theorem mobz_267 : xBm bz_267 := fun dl fs i1 i2 fin hi => (m_aload (m_getr (m_getr (m_iload (m_ald (m_iret hi))))))
theorem mobz_268 : xBm bz_268 := fun dl fs i1 i2 fin hi => (m_aload (m_aload (m_putr (m_aload (m_iload (m_puti (m_aload (m_iconst (m_puti (m_aload (m_iconst (m_puti (m_aload (m_getr (m_iconst (m_iconst (m_ast (m_aload (m_iconst (m_puti (m_aload (m_getr (m_xgo hi)))))))))))))))))))))))
theorem mobz_269 : xBm bz_269 := fun dl fs i1 i2 fin hi => (m_ret hi)
theorem mobz_270 : xBm bz_270 := fun dl fs i1 i2 fin hi => (m_aload (m_getr (m_iconst (m_aload (m_getr (m_getr (m_iload (m_ald (m_bin (m_ald (m_istore (m_iload (m_if1 (m_xgo hi) m_no)))))))))))))
theorem mobz_271 : xBm bz_271 := fun dl fs i1 i2 fin hi => (m_iload (m_iconst (m_bin (m_iconst (m_divr (m_iret hi))))))
theorem mobz_272 : xBm bz_272 := fun dl fs i1 i2 fin hi => (m_aload (m_obj (m_aload (m_iconst (m_newa (m_putr (m_aload (m_iconst (m_newa (m_putr (m_aload (m_iconst (m_newa (m_putr (m_aload (m_iconst (m_newa (m_putr (m_aload (m_iconst (m_newa (m_putr (m_xgo hi)))))))))))))))))))))))
theorem mobz_273 : xBm bz_273 := fun dl fs i1 i2 fin hi => (m_aload (m_geti (m_iconst (m_if2 (m_xgo hi) m_no))))
theorem mobz_274 : xBm bz_274 := fun dl fs i1 i2 fin hi => (m_aload (m_geti (m_istore (m_aload (m_dup (m_geti (m_iconst (m_bin (m_puti (m_aload (m_getr (m_iload (m_iload (m_ast (m_aload (m_getr (m_iload (m_iload (m_ast (m_aload (m_getr (m_iload (m_xgo hi)))))))))))))))))))))))
theorem mobz_275 : xBm bz_275 := fun dl fs i1 i2 fin hi => (m_iconst (m_istore (m_iload (m_istore (m_iload (m_if1 (m_xgo hi) (m_iload (m_iconst (m_if2 (m_xgo hi) (m_iinc (m_aload (m_getr (m_iload (m_ald (m_istore (m_xgo hi))))))))))))))))
theorem mobz_276 : xBm bz_276 := fun dl fs i1 i2 fin hi => (m_iload (m_if1 (m_xgo hi) (m_iload (m_iconst (m_if2 (m_xgo hi) (m_iinc (m_aload (m_getr (m_iload (m_ald (m_istore (m_xgo hi))))))))))))
theorem mobz_277 : xBm bz_277 := fun dl fs i1 i2 fin hi => (m_iload (m_iret hi))
theorem mobz_278 : xBm bz_278 := fun dl fs i1 i2 fin hi => (m_aload (m_obj (m_aload (m_iconst (m_newa (m_putr (m_aload (m_iconst (m_newa (m_putr (m_aload (m_iconst (m_newa (m_putr (m_aload (m_iconst (m_newa (m_putr (m_aload (m_aload (m_putr (m_aload (m_xgo hi)))))))))))))))))))))))
theorem mobz_279 : xBm bz_279 := fun dl fs i1 i2 fin hi => (m_iload (m_iconst (m_if2 (m_xgo hi) (m_aload (m_getr (m_iconst (m_iload (m_bin (m_iload (m_i2l (m_iconst (m_lsh (m_last (m_iinc (m_xgo hi)))))))))))))))
theorem mobz_280 : xBm bz_280 := fun dl fs i1 i2 fin hi => (m_ret hi)
theorem mobz_281 : xBm bz_281 := fun dl fs i1 i2 fin hi => (m_aload (m_iconst (m_iconst (m_callv hi))))
theorem mobz_282 : xBm bz_282 := fun dl fs i1 i2 fin hi => (m_istore (m_aload (m_iload (m_iconst (m_iload (m_callv hi))))))
theorem mobz_283 : xBm bz_283 := fun dl fs i1 i2 fin hi => (m_aload (m_iload (m_iconst (m_iload (m_callv hi)))))
theorem mobz_284 : xBm bz_284 := fun dl fs i1 i2 fin hi => (m_iload (m_iret hi))
theorem mobz_285 : xBm bz_285 := fun dl fs i1 i2 fin hi => (m_iload (m_istore (m_iconst (m_istore (m_iload (m_iload (m_if2 (m_xgo hi) (m_aload (m_aload (m_callv hi))))))))))
theorem mobz_286 : xBm bz_286 := fun dl fs i1 i2 fin hi => (m_iload (m_iload (m_if2 (m_xgo hi) (m_aload (m_aload (m_callv hi))))))
theorem mobz_287 : xBm bz_287 := fun dl fs i1 i2 fin hi => (m_iload (m_callv hi))
theorem mobz_288 : xBm bz_288 := fun dl fs i1 i2 fin hi => (m_istore (m_iinc (m_xgo hi)))
theorem mobz_289 : xBm bz_289 := fun dl fs i1 i2 fin hi => (m_iload (m_iret hi))
theorem mobz_290 : xBm bz_290 := fun dl fs i1 i2 fin hi => (m_aload (m_iconst (m_puti (m_aload (m_iconst (m_puti (m_aload (m_iconst (m_puti (m_aload (m_iconst (m_puti (m_ret hi)))))))))))))
theorem mobz_291 : xBm bz_291 := fun dl fs i1 i2 fin hi => (m_iload (m_iconst (m_if2 (m_xgo hi) (m_aload (m_iconst (m_callv hi))))))
theorem mobz_292 : xBm bz_292 := fun dl fs i1 i2 fin hi => (m_xgo hi)
theorem mobz_293 : xBm bz_293 := fun dl fs i1 i2 fin hi => (m_iload (m_if1 (m_xgo hi) (m_iload (m_iconst (m_if2 (m_xgo hi) (m_iload (m_iconst (m_if2 (m_xgo hi) (m_iload (m_iconst (m_if2 (m_xgo hi) (m_xgo hi))))))))))))
theorem mobz_294 : xBm bz_294 := fun dl fs i1 i2 fin hi => (m_aload (m_iconst (m_callv hi)))
theorem mobz_295 : xBm bz_295 := fun dl fs i1 i2 fin hi => (m_ret hi)
theorem mobz_296 : xBm bz_296 := fun dl fs i1 i2 fin hi => (m_iconst (m_iload (m_bin (m_iret hi))))
theorem mobz_297 : xBm bz_297 := fun dl fs i1 i2 fin hi => (m_aload (m_getr (m_iload (m_lald (m_iconst (m_lsh (m_l2i (m_iconst (m_bin (m_iret hi))))))))))
theorem mobz_298 : xBm bz_298 := fun dl fs i1 i2 fin hi => (m_aload (m_getr (m_getr (m_iload (m_ald (m_istore (m_aload (m_getr (m_getr (m_iload (m_ald (m_istore (m_aload (m_getr (m_iload (m_callv hi))))))))))))))))
theorem mobz_299 : xBm bz_299 := fun dl fs i1 i2 fin hi => (m_istore (m_iload (m_if1 (m_xgo hi) (m_iload (m_calls hi)))))
theorem mobz_300 : xBm bz_300 := fun dl fs i1 i2 fin hi => (m_xgo hi)
theorem mobz_301 : xBm bz_301 := fun dl fs i1 i2 fin hi => (m_aload (m_iload (m_iload (m_callv hi))))
theorem mobz_302 : xBm bz_302 := fun dl fs i1 i2 fin hi => (m_istore (m_aload (m_iconst (m_puti (m_iload (m_iconst (m_if2 (m_xgo hi) (m_iconst (m_istore (m_xgo hi))))))))))
theorem mobz_303 : xBm bz_303 := fun dl fs i1 i2 fin hi => (m_iload (m_iload (m_if2 (m_xgo hi) (m_aload (m_iload (m_iload (m_aload (m_callv hi))))))))
theorem mobz_304 : xBm bz_304 := fun dl fs i1 i2 fin hi => (m_callv hi)
theorem mobz_305 : xBm bz_305 := fun dl fs i1 i2 fin hi => (m_iinc (m_xgo hi))
theorem mobz_306 : xBm bz_306 := fun dl fs i1 i2 fin hi => (m_xgo hi)
theorem mobz_307 : xBm bz_307 := fun dl fs i1 i2 fin hi => (m_aload (m_getr (m_getr (m_aload (m_getr (m_getr (m_iload (m_iconst (m_bin (m_ald (m_ald (m_istore (m_iconst (m_istore (m_iload (m_iload (m_if2 (m_xgo hi) m_no)))))))))))))))))
theorem mobz_308 : xBm bz_308 := fun dl fs i1 i2 fin hi => (m_aload (m_getr (m_getr (m_iload (m_ald (m_istore (m_aload (m_iload (m_iconst (m_bin (m_aload (m_getr (m_getr (m_iload (m_ald (m_iconst (m_callv hi)))))))))))))))))
theorem mobz_309 : xBm bz_309 := fun dl fs i1 i2 fin hi => (m_aload (m_iconst (m_iload (m_iconst (m_bin (m_callv hi))))))
theorem mobz_310 : xBm bz_310 := fun dl fs i1 i2 fin hi => (m_istore (m_aload (m_iload (m_iconst (m_iload (m_callv hi))))))
theorem mobz_311 : xBm bz_311 := fun dl fs i1 i2 fin hi => (m_iload (m_iconst (m_if2 (m_xgo hi) (m_iconst (m_xgo hi)))))
theorem mobz_312 : xBm bz_312 := fun dl fs i1 i2 fin hi => (m_aload (m_getr (m_getr (m_aload (m_getr (m_getr (m_iload (m_ald (m_ald (m_xgo hi))))))))))
theorem mobz_313 : xBm bz_313 := fun dl fs i1 i2 fin hi => (m_istore (m_iconst (m_istore (m_iload (m_iload (m_if2 (m_xgo hi) (m_aload (m_iload (m_iload (m_iconst (m_bin (m_iload (m_if1 (m_xgo hi) m_no)))))))))))))
theorem mobz_314 : xBm bz_314 := fun dl fs i1 i2 fin hi => (m_iload (m_iload (m_if2 (m_xgo hi) (m_aload (m_iload (m_iload (m_iconst (m_bin (m_iload (m_if1 (m_xgo hi) m_no))))))))))
theorem mobz_315 : xBm bz_315 := fun dl fs i1 i2 fin hi => (m_iload (m_iconst (m_if2 (m_xgo hi) (m_iload (m_iconst (m_if2 (m_xgo hi) (m_iload (m_xgo hi))))))))
theorem mobz_316 : xBm bz_316 := fun dl fs i1 i2 fin hi => (m_aload (m_iload (m_iload (m_callv hi))))
theorem mobz_317 : xBm bz_317 := fun dl fs i1 i2 fin hi => (m_callv hi)
theorem mobz_318 : xBm bz_318 := fun dl fs i1 i2 fin hi => (m_aload (m_getr (m_getr (m_iload (m_ald (m_istore (m_iinc (m_xgo hi))))))))
theorem mobz_319 : xBm bz_319 := fun dl fs i1 i2 fin hi => (m_iload (m_iret hi))
theorem mobz_320 : xBm bz_320 := fun dl fs i1 i2 fin hi => (m_aload (m_iload (m_iconst (m_callv hi))))
theorem mobz_321 : xBm bz_321 := fun dl fs i1 i2 fin hi => (m_istore (m_aload (m_getr (m_getr (m_iload (m_ald (m_istore (m_iload (m_if1 (m_xgo hi) (m_aload (m_aload (m_iload (m_iload (m_callv hi))))))))))))))
theorem mobz_322 : xBm bz_322 := fun dl fs i1 i2 fin hi => (m_iload (m_if1 (m_xgo hi) (m_aload (m_aload (m_iload (m_iload (m_callv hi)))))))
theorem mobz_323 : xBm bz_323 := fun dl fs i1 i2 fin hi => (m_iload (m_callv hi))
theorem mobz_324 : xBm bz_324 := fun dl fs i1 i2 fin hi => (m_istore (m_iinc (m_xgo hi)))
theorem mobz_325 : xBm bz_325 := fun dl fs i1 i2 fin hi => (m_iload (m_iret hi))
theorem mobz_326 : xBm bz_326 := fun dl fs i1 i2 fin hi => (m_iload (m_istore (m_iload (m_iload (m_if2 (m_xgo hi) (m_aload (m_getr (m_getr (m_iload (m_ald (m_iconst (m_if2 (m_xgo hi) (m_aload (m_getr (m_getr (m_iload (m_aload (m_aload (m_getr (m_getr (m_iload (m_ald (m_xgo hi)))))))))))))))))))))))
theorem mobz_327 : xBm bz_327 := fun dl fs i1 i2 fin hi => (m_iload (m_iload (m_if2 (m_xgo hi) (m_aload (m_getr (m_getr (m_iload (m_ald (m_iconst (m_if2 (m_xgo hi) (m_aload (m_getr (m_getr (m_iload (m_aload (m_aload (m_getr (m_getr (m_iload (m_ald (m_iload (m_callv hi))))))))))))))))))))))
theorem mobz_328 : xBm bz_328 := fun dl fs i1 i2 fin hi => (m_ast (m_xgo hi))
theorem mobz_329 : xBm bz_329 := fun dl fs i1 i2 fin hi => (m_aload (m_getr (m_getr (m_iload (m_ald (m_if1 (m_xgo hi) (m_aload (m_getr (m_getr (m_iload (m_aload (m_getr (m_getr (m_iload (m_ald (m_calls hi))))))))))))))))
theorem mobz_330 : xBm bz_330 := fun dl fs i1 i2 fin hi => (m_ast (m_xgo hi))
theorem mobz_331 : xBm bz_331 := fun dl fs i1 i2 fin hi => (m_aload (m_getr (m_getr (m_iload (m_ald (m_istore (m_aload (m_aload (m_getr (m_getr (m_iload (m_ald (m_iload (m_callv hi))))))))))))))
theorem mobz_332 : xBm bz_332 := fun dl fs i1 i2 fin hi => (m_istore (m_aload (m_getr (m_getr (m_iload (m_ald (m_istore (m_iconst (m_istore (m_xgo hi))))))))))
theorem mobz_333 : xBm bz_333 := fun dl fs i1 i2 fin hi => (m_iload (m_iload (m_if2 (m_xgo hi) (m_aload (m_iload (m_iload (m_aload (m_getr (m_getr (m_iload (m_ald (m_callv hi))))))))))))
theorem mobz_334 : xBm bz_334 := fun dl fs i1 i2 fin hi => (m_aload (m_getr (m_getr (m_iload (m_ald (m_istore (m_iinc (m_xgo hi))))))))
theorem mobz_335 : xBm bz_335 := fun dl fs i1 i2 fin hi => (m_aload (m_getr (m_getr (m_iload (m_iload (m_ast (m_iinc (m_xgo hi))))))))
theorem mobz_336 : xBm bz_336 := fun dl fs i1 i2 fin hi => (m_iinc (m_xgo hi))
theorem mobz_337 : xBm bz_337 := fun dl fs i1 i2 fin hi => (m_ret hi)
theorem mobz_338 : xBm bz_338 := fun dl fs i1 i2 fin hi => (m_iload (m_istore (m_iconst (m_istore (m_iload (m_iconst (m_if2 (m_xgo hi) (m_aload (m_getr (m_iload (m_lald (m_lconst (m_lcmp (m_if1 (m_xgo hi) (m_aload (m_getr (m_iload (m_lald (m_iconst (m_lsh (m_l2i (m_iconst (m_xgo hi)))))))))))))))))))))))
theorem mobz_339 : xBm bz_339 := fun dl fs i1 i2 fin hi => (m_iload (m_iconst (m_if2 (m_xgo hi) (m_aload (m_getr (m_iload (m_lald (m_lconst (m_lcmp (m_if1 (m_xgo hi) (m_aload (m_getr (m_iload (m_lald (m_iconst (m_lsh (m_l2i (m_iconst (m_bin (m_istore (m_iinc (m_xgo hi))))))))))))))))))))))
theorem mobz_340 : xBm bz_340 := fun dl fs i1 i2 fin hi => (m_iload (m_iret hi))
theorem mobz_341 : xBm bz_341 := fun dl fs i1 i2 fin hi => (m_aload (m_dup (m_geti (m_iconst (m_bin (m_puti (m_aload (m_iconst (m_puti (m_iload (m_istore (m_iconst (m_istore (m_xgo hi))))))))))))))
theorem mobz_342 : xBm bz_342 := fun dl fs i1 i2 fin hi => (m_iload (m_iconst (m_if2 (m_xgo hi) (m_iload (m_if1 (m_xgo hi) (m_aload (m_geti (m_if1 (m_xgo hi) (m_xgo hi)))))))))
theorem mobz_343 : xBm bz_343 := fun dl fs i1 i2 fin hi => (m_iload (m_if1 (m_xgo hi) (m_aload (m_getr (m_iload (m_lald (m_iconst (m_lsh (m_l2i (m_iconst (m_bin (m_istore (m_iload (m_aload (m_geti (m_if2 m_no (m_iconst (m_aload (m_geti (m_bin (m_aload (m_geti (m_xgo hi)))))))))))))))))))))))
theorem mobz_344 : xBm bz_344 := fun dl fs i1 i2 fin hi => (m_iload (m_aload (m_geti (m_iconst (m_bin (m_if2 (m_xgo hi) (m_aload (m_getr (m_aload (m_iload (m_callv hi)))))))))))
theorem mobz_345 : xBm bz_345 := fun dl fs i1 i2 fin hi => (m_callv hi)
theorem mobz_346 : xBm bz_346 := fun dl fs i1 i2 fin hi => (m_if1 (m_xgo hi) (m_aload (m_getr (m_iload (m_dup2 (m_lald (m_aload (m_geti (m_iload (m_bin (m_i2l (m_iconst (m_lsh (m_lbin (m_last (m_aload (m_dup (m_geti (m_iconst (m_bin (m_puti (m_aload (m_xgo hi)))))))))))))))))))))))
theorem mobz_347 : xBm bz_347 := fun dl fs i1 i2 fin hi => (m_iconst (m_istore (m_xgo hi)))
theorem mobz_348 : xBm bz_348 := fun dl fs i1 i2 fin hi => (m_aload (m_getr (m_iconst (m_aload (m_geti (m_bin (m_lald (m_l2i (m_iconst (m_bin (m_istore (m_aload (m_getr (m_iconst (m_aload (m_geti (m_bin (m_lald (m_iconst (m_lsh (m_l2i (m_istore (m_xgo hi)))))))))))))))))))))))
theorem mobz_349 : xBm bz_349 := fun dl fs i1 i2 fin hi => (m_callv hi)
theorem mobz_350 : xBm bz_350 := fun dl fs i1 i2 fin hi => (m_if2 (m_xgo hi) (m_aload (m_getr (m_iload (m_dup2 (m_lald (m_lconst (m_lbin (m_last (m_aload (m_dup (m_geti (m_iconst (m_bin (m_puti (m_xgo hi))))))))))))))))
theorem mobz_351 : xBm bz_351 := fun dl fs i1 i2 fin hi => (m_aload (m_getr (m_iconst (m_aload (m_geti (m_bin (m_dup2 (m_lald (m_lconst (m_lbin (m_last (m_aload (m_aload (m_iload (m_iload (m_callv hi))))))))))))))))
theorem mobz_352 : xBm bz_352 := fun dl fs i1 i2 fin hi => (m_callv hi)
theorem mobz_353 : xBm bz_353 := fun dl fs i1 i2 fin hi => (m_istore (m_iinc (m_xgo hi)))
theorem mobz_354 : xBm bz_354 := fun dl fs i1 i2 fin hi => (m_iinc (m_xgo hi))
theorem mobz_355 : xBm bz_355 := fun dl fs i1 i2 fin hi => (m_iconst (m_zret hi))
theorem mobz_356 : xBm bz_356 := fun dl fs i1 i2 fin hi => (m_iload (m_iload (m_if2 (m_xgo hi) (m_iconst (m_zret hi)))))
theorem mobz_357 : xBm bz_357 := fun dl fs i1 i2 fin hi => (m_aload (m_iload (m_callv hi)))
theorem mobz_358 : xBm bz_358 := fun dl fs i1 i2 fin hi => (m_istore (m_aload (m_iload (m_callv hi))))
theorem mobz_359 : xBm bz_359 := fun dl fs i1 i2 fin hi => (m_istore (m_iload (m_istore (m_iload (m_istore (m_iload (m_if1 (m_xgo hi) (m_iload (m_if1 (m_xgo hi) (m_xgo hi))))))))))
theorem mobz_360 : xBm bz_360 := fun dl fs i1 i2 fin hi => (m_iload (m_if1 (m_xgo hi) (m_iload (m_xgo hi))))
theorem mobz_361 : xBm bz_361 := fun dl fs i1 i2 fin hi => (m_iload (m_istore (m_iload (m_if1 (m_xgo hi) (m_iload (m_xgo hi))))))
theorem mobz_362 : xBm bz_362 := fun dl fs i1 i2 fin hi => (m_istore (m_iload (m_if1 (m_xgo hi) (m_iload (m_xgo hi)))))
theorem mobz_363 : xBm bz_363 := fun dl fs i1 i2 fin hi => (m_iload (m_istore (m_aload (m_aload (m_geti (m_if1 (m_xgo hi) (m_aload (m_getr (m_iload (m_callv hi))))))))))
theorem mobz_364 : xBm bz_364 := fun dl fs i1 i2 fin hi => (m_istore (m_aload (m_aload (m_geti (m_if1 (m_xgo hi) (m_aload (m_getr (m_iload (m_callv hi)))))))))
theorem mobz_365 : xBm bz_365 := fun dl fs i1 i2 fin hi => (m_if1 (m_xgo hi) (m_aload (m_getr (m_iload (m_callv hi)))))
theorem mobz_366 : xBm bz_366 := fun dl fs i1 i2 fin hi => (m_if1 (m_xgo hi) (m_iconst (m_xgo hi)))
theorem mobz_367 : xBm bz_367 := fun dl fs i1 i2 fin hi => (m_iconst (m_xgo hi))
theorem mobz_368 : xBm bz_368 := fun dl fs i1 i2 fin hi => (m_iconst (m_putz (m_xgo hi)))
theorem mobz_369 : xBm bz_369 := fun dl fs i1 i2 fin hi => (m_putz (m_xgo hi))
theorem mobz_370 : xBm bz_370 := fun dl fs i1 i2 fin hi => (m_iload (m_iload (m_if2 m_no (m_iload (m_iconst (m_if2 m_no (m_iconst (m_aload (m_geti (m_bin (m_aload (m_geti (m_iconst (m_bin (m_if2 (m_xgo hi) m_no)))))))))))))))
theorem mobz_371 : xBm bz_371 := fun dl fs i1 i2 fin hi => (m_aload (m_dup (m_geti (m_iconst (m_bin (m_puti (m_aload (m_getr (m_iconst (m_aload (m_geti (m_bin (m_iload (m_i2l (m_last (m_xgo hi))))))))))))))))
theorem mobz_372 : xBm bz_372 := fun dl fs i1 i2 fin hi => (m_aload (m_getr (m_iload (m_lconst (m_iload (m_i2l (m_iconst (m_lsh (m_lbin (m_aload (m_getr (m_iload (m_lald (m_lconst (m_lbin (m_lbin (m_last (m_iconst (m_zret hi)))))))))))))))))))
theorem mobz_373 : xBm bz_373 := fun dl fs i1 i2 fin hi => (m_aload (m_getr (m_getr (m_iload (m_ald (m_tablen (And.intro (m_xgo hi) (And.intro (m_xgo hi) (And.intro (m_xgo hi) (And.intro m_no (And.intro (m_xgo hi) (And.intro m_no (And.intro m_no (And.intro (m_xgo hi) (And.intro m_no (And.intro m_no (And.intro m_no (And.intro m_no (And.intro m_no True.intro))))))))))))) m_no))))))
theorem mobz_374 : xBm bz_374 := fun dl fs i1 i2 fin hi => (m_aload (m_aload (m_getr (m_getr (m_aload (m_getr (m_getr (m_iload (m_ald (m_ald (m_iload (m_iload (m_callv hi)))))))))))))
theorem mobz_375 : xBm bz_375 := fun dl fs i1 i2 fin hi => (m_xgo hi)
theorem mobz_376 : xBm bz_376 := fun dl fs i1 i2 fin hi => (m_aload (m_aload (m_aload (m_getr (m_getr (m_iload (m_ald (m_iconst (m_callv hi)))))))))
theorem mobz_377 : xBm bz_377 := fun dl fs i1 i2 fin hi => (m_iload (m_iload (m_callv hi)))
theorem mobz_378 : xBm bz_378 := fun dl fs i1 i2 fin hi => (m_xgo hi)
theorem mobz_379 : xBm bz_379 := fun dl fs i1 i2 fin hi => (m_aload (m_aload (m_aload (m_aload (m_getr (m_getr (m_iload (m_ald (m_callv hi)))))))))
theorem mobz_380 : xBm bz_380 := fun dl fs i1 i2 fin hi => (m_aload (m_getr (m_getr (m_iload (m_ald (m_callv hi))))))
theorem mobz_381 : xBm bz_381 := fun dl fs i1 i2 fin hi => (m_iload (m_iload (m_callv hi)))
theorem mobz_382 : xBm bz_382 := fun dl fs i1 i2 fin hi => (m_xgo hi)
theorem mobz_383 : xBm bz_383 := fun dl fs i1 i2 fin hi => (m_aload (m_aload (m_getr (m_getr (m_iload (m_ald (m_iload (m_callv hi))))))))
theorem mobz_384 : xBm bz_384 := fun dl fs i1 i2 fin hi => (m_istore (m_aload (m_aload (m_getr (m_getr (m_iload (m_ald (m_aload (m_getr (m_getr (m_iload (m_ald (m_iload (m_callv hi))))))))))))))
theorem mobz_385 : xBm bz_385 := fun dl fs i1 i2 fin hi => (m_aload (m_aload (m_getr (m_getr (m_iload (m_ald (m_iload (m_callv hi))))))))
theorem mobz_386 : xBm bz_386 := fun dl fs i1 i2 fin hi => (m_xgo hi)
theorem mobz_387 : xBm bz_387 := fun dl fs i1 i2 fin hi => (m_aload (m_iload (m_iload (m_callv hi))))
theorem mobz_388 : xBm bz_388 := fun dl fs i1 i2 fin hi => (m_xgo hi)
theorem mobz_389 : xBm bz_389 := fun dl fs i1 i2 fin hi => (m_ret hi)
theorem mobz_390 : xBm bz_390 := fun dl fs i1 i2 fin hi => (m_aload (m_callv hi))
theorem mobz_391 : xBm bz_391 := fun dl fs i1 i2 fin hi => (m_istore (m_aload (m_aload (m_getr (m_aload (m_getr (m_getr (m_iload (m_ald (m_callv hi))))))))))
theorem mobz_392 : xBm bz_392 := fun dl fs i1 i2 fin hi => (m_iload (m_callv hi))
theorem mobz_393 : xBm bz_393 := fun dl fs i1 i2 fin hi => (m_istore (m_iload (m_istore (m_aload (m_getr (m_getr (m_iload (m_ald (m_istore (m_xgo hi))))))))))
theorem mobz_394 : xBm bz_394 := fun dl fs i1 i2 fin hi => (m_iload (m_if1 (m_xgo hi) (m_aload (m_getr (m_getr (m_iload (m_aload (m_iload (m_iconst (m_callv hi))))))))))
theorem mobz_395 : xBm bz_395 := fun dl fs i1 i2 fin hi => (m_ast (m_aload (m_iload (m_iconst (m_callv hi)))))
theorem mobz_396 : xBm bz_396 := fun dl fs i1 i2 fin hi => (m_istore (m_aload (m_getr (m_getr (m_iload (m_ald (m_istore (m_xgo hi))))))))
theorem mobz_397 : xBm bz_397 := fun dl fs i1 i2 fin hi => (m_aload (m_iload (m_iload (m_iload (m_callv hi)))))
theorem mobz_398 : xBm bz_398 := fun dl fs i1 i2 fin hi => (m_aload (m_aload (m_getr (m_getr (m_iload (m_ald (m_iload (m_callv hi))))))))
theorem mobz_399 : xBm bz_399 := fun dl fs i1 i2 fin hi => (m_ret hi)
theorem mobz_400 : xBm bz_400 := fun dl fs i1 i2 fin hi => (m_aload (m_iconst (m_puti (m_iload (m_istore (m_iload (m_if1 (m_xgo hi) (m_aload (m_geti (m_if1 (m_xgo hi) (m_aload (m_getr (m_getr (m_iload (m_ald (m_iconst (m_if2 (m_xgo hi) (m_aload (m_callv hi)))))))))))))))))))
theorem mobz_401 : xBm bz_401 := fun dl fs i1 i2 fin hi => (m_iload (m_if1 (m_xgo hi) (m_aload (m_geti (m_if1 (m_xgo hi) (m_aload (m_getr (m_getr (m_iload (m_ald (m_iconst (m_if2 (m_xgo hi) (m_aload (m_callv hi))))))))))))))
theorem mobz_402 : xBm bz_402 := fun dl fs i1 i2 fin hi => (m_aload (m_iload (m_callv hi)))
theorem mobz_403 : xBm bz_403 := fun dl fs i1 i2 fin hi => (m_aload (m_callv hi))
theorem mobz_404 : xBm bz_404 := fun dl fs i1 i2 fin hi => (m_aload (m_getr (m_getr (m_iload (m_ald (m_istore (m_xgo hi)))))))
theorem mobz_405 : xBm bz_405 := fun dl fs i1 i2 fin hi => (m_ret hi)
theorem mobz_406 : xBm bz_406 := fun dl fs i1 i2 fin hi => (m_aload (m_getr (m_getr (m_iload (m_ald (m_tablen (And.intro (m_xgo hi) (And.intro (m_xgo hi) (And.intro m_no (And.intro (m_xgo hi) (And.intro (m_xgo hi) (And.intro m_no True.intro)))))) (m_xgo hi)))))))
theorem mobz_407 : xBm bz_407 := fun dl fs i1 i2 fin hi => (m_aload (m_getr (m_getr (m_iload (m_iload (m_ast (m_xgo hi)))))))
theorem mobz_408 : xBm bz_408 := fun dl fs i1 i2 fin hi => (m_aload (m_aload (m_getr (m_getr (m_iload (m_ald (m_callv hi)))))))
theorem mobz_409 : xBm bz_409 := fun dl fs i1 i2 fin hi => (m_istore (m_aload (m_aload (m_iload (m_iconst (m_callv hi))))))
theorem mobz_410 : xBm bz_410 := fun dl fs i1 i2 fin hi => (m_iload (m_iload (m_callv hi)))
theorem mobz_411 : xBm bz_411 := fun dl fs i1 i2 fin hi => (m_aload (m_aload (m_getr (m_getr (m_iload (m_ald (m_aload (m_getr (m_getr (m_iload (m_ald (m_iload (m_iconst (m_iconst (m_callv hi)))))))))))))))
theorem mobz_412 : xBm bz_412 := fun dl fs i1 i2 fin hi => (m_xgo hi)
theorem mobz_413 : xBm bz_413 := fun dl fs i1 i2 fin hi => (m_ret hi)
theorem mobz_414 : xBm bz_414 := fun dl fs i1 i2 fin hi => (m_iconst (m_iload (m_iconst (m_divr (m_bin (m_istore (m_aload (m_geti (m_iload (m_bin (m_iconst (m_if2 (m_xgo hi) m_no))))))))))))
theorem mobz_415 : xBm bz_415 := fun dl fs i1 i2 fin hi => (m_aload (m_geti (m_istore (m_aload (m_dup (m_geti (m_iload (m_bin (m_puti (m_aload (m_getr (m_iload (m_aload (m_geti (m_lconst (m_callL hi))))))))))))))))
theorem mobz_416 : xBm bz_416 := fun dl fs i1 i2 fin hi => (m_aload (m_getr (m_iload (m_iload (m_i2l (m_iconst (m_lsh (m_last (m_iload (m_iret hi))))))))))
theorem mobz_417 : xBm bz_417 := fun dl fs i1 i2 fin hi => (m_aload (m_iload (m_callv hi)))
theorem mobz_418 : xBm bz_418 := fun dl fs i1 i2 fin hi => (m_istore (m_iload (m_if1 (m_xgo hi) (m_iload (m_iconst (m_if2 (m_xgo hi) (m_aload (m_iload (m_aload (m_callv hi))))))))))
theorem mobz_419 : xBm bz_419 := fun dl fs i1 i2 fin hi => (m_aload (m_iload (m_aload (m_callv hi))))
theorem mobz_420 : xBm bz_420 := fun dl fs i1 i2 fin hi => (m_ret hi)
theorem mobz_421 : xBm bz_421 := fun dl fs i1 i2 fin hi => (m_iload (m_iconst (m_if2 (m_xgo hi) (m_aload (m_getr (m_iload (m_callv hi)))))))
theorem mobz_422 : xBm bz_422 := fun dl fs i1 i2 fin hi => (m_if1 (m_xgo hi) m_no)
theorem mobz_423 : xBm bz_423 := fun dl fs i1 i2 fin hi => (m_iconst (m_istore (m_iload (m_iconst (m_if2 (m_xgo hi) (m_iload (m_if1 (m_xgo hi) (m_iconst (m_xgo hi)))))))))
theorem mobz_424 : xBm bz_424 := fun dl fs i1 i2 fin hi => (m_iconst (m_xgo hi))
theorem mobz_425 : xBm bz_425 := fun dl fs i1 i2 fin hi => (m_iload (m_if1 (m_xgo hi) m_no))
theorem mobz_426 : xBm bz_426 := fun dl fs i1 i2 fin hi => (m_iconst (m_istore (m_iload (m_if1 (m_xgo hi) (m_aload (m_iconst (m_callv hi)))))))
theorem mobz_427 : xBm bz_427 := fun dl fs i1 i2 fin hi => (m_istore (m_iload (m_if1 (m_xgo hi) (m_aload (m_iconst (m_callv hi))))))
theorem mobz_428 : xBm bz_428 := fun dl fs i1 i2 fin hi => (m_iload (m_iconst (m_if2 (m_xgo hi) (m_aload (m_iconst (m_callv hi))))))
theorem mobz_429 : xBm bz_429 := fun dl fs i1 i2 fin hi => (m_xgo hi)
theorem mobz_430 : xBm bz_430 := fun dl fs i1 i2 fin hi => (m_iload (m_iconst (m_if2 (m_xgo hi) (m_aload (m_aload (m_getr (m_getr (m_aload (m_getr (m_getr (m_iload (m_iconst (m_bin (m_ald (m_ald (m_callv hi))))))))))))))))
theorem mobz_431 : xBm bz_431 := fun dl fs i1 i2 fin hi => (m_xgo hi)
theorem mobz_432 : xBm bz_432 := fun dl fs i1 i2 fin hi => (m_iload (m_iconst (m_if2 (m_xgo hi) (m_aload (m_iload (m_iconst (m_if2 m_no (m_iconst (m_xgo hi)))))))))
theorem mobz_433 : xBm bz_433 := fun dl fs i1 i2 fin hi => (m_callv hi)
theorem mobz_434 : xBm bz_434 := fun dl fs i1 i2 fin hi => (m_iconst (m_aload (m_geti (m_bin (m_aload (m_geti (m_iconst (m_bin (m_if2 (m_xgo hi) (m_aload (m_dup (m_geti (m_iconst (m_bin (m_puti (m_aload (m_getr (m_iconst (m_aload (m_geti (m_bin (m_iload (m_xgo hi)))))))))))))))))))))))
theorem mobz_435 : xBm bz_435 := fun dl fs i1 i2 fin hi => (m_lconst (m_iload (m_i2l (m_lbin (m_last (m_ret hi))))))
theorem mobz_436 : xBm bz_436 := fun dl fs i1 i2 fin hi => (m_iload (m_i2l (m_lbin (m_last (m_ret hi)))))
theorem mobz_437 : xBm bz_437 := fun dl fs i1 i2 fin hi => (m_iload (m_iconst (m_if2 (m_xgo hi) (m_aload (m_getr (m_iload (m_lald (m_iconst (m_iload (m_bin (m_lsh (m_l2i (m_iconst (m_bin (m_xgo hi)))))))))))))))
theorem mobz_438 : xBm bz_438 := fun dl fs i1 i2 fin hi => (m_aload (m_getr (m_iload (m_iload (m_iconst (m_bin (m_iconst (m_divr (m_bin (m_lald (m_iconst (m_iload (m_iconst (m_bin (m_iconst (m_divr (m_bin (m_lsh (m_l2i (m_iconst (m_bin (m_xgo hi))))))))))))))))))))))
theorem mobz_439 : xBm bz_439 := fun dl fs i1 i2 fin hi => (m_iret hi)
theorem mobz_440 : xBm bz_440 := fun dl fs i1 i2 fin hi => (m_aload (m_iconst (m_puti (m_aload (m_iconst (m_puti (m_aload (m_aload (m_iload (m_callv hi))))))))))
theorem mobz_441 : xBm bz_441 := fun dl fs i1 i2 fin hi => (m_iconst (m_aload (m_callv hi)))
theorem mobz_442 : xBm bz_442 := fun dl fs i1 i2 fin hi => (m_iconst (m_istore (m_iload (m_iconst (m_if2 (m_xgo hi) (m_aload (m_geti (m_if1 (m_xgo hi) (m_aload (m_callv hi))))))))))
theorem mobz_443 : xBm bz_443 := fun dl fs i1 i2 fin hi => (m_iload (m_iconst (m_if2 (m_xgo hi) (m_aload (m_geti (m_if1 (m_xgo hi) (m_aload (m_callv hi))))))))
theorem mobz_444 : xBm bz_444 := fun dl fs i1 i2 fin hi => (m_if1 (m_xgo hi) (m_aload (m_getr (m_iconst (m_aload (m_geti (m_bin (m_lald (m_lstore (m_lload (m_l2i (m_iconst (m_bin (m_istore (m_lload (m_iconst (m_lsh (m_l2i (m_iconst (m_bin (m_istore (m_aload (m_xgo hi)))))))))))))))))))))))
theorem mobz_445 : xBm bz_445 := fun dl fs i1 i2 fin hi => (m_istore (m_iload (m_aload (m_getr (m_iload (m_callv hi))))))
theorem mobz_446 : xBm bz_446 := fun dl fs i1 i2 fin hi => (m_if2 (m_xgo hi) (m_aload (m_dup (m_geti (m_iconst (m_bin (m_puti (m_aload (m_iload (m_lload (m_iconst (m_lsh (m_lconst (m_lcmp (m_if1 (m_xgo hi) (m_iconst (m_xgo hi)))))))))))))))))
theorem mobz_447 : xBm bz_447 := fun dl fs i1 i2 fin hi => (m_iconst (m_aload (m_callv hi)))
theorem mobz_448 : xBm bz_448 := fun dl fs i1 i2 fin hi => (m_aload (m_callv hi))
theorem mobz_449 : xBm bz_449 := fun dl fs i1 i2 fin hi => (m_xgo hi)
theorem mobz_450 : xBm bz_450 := fun dl fs i1 i2 fin hi => (m_aload (m_getr (m_iconst (m_aload (m_geti (m_bin (m_dup2 (m_lald (m_lconst (m_lbin (m_last (m_aload (m_iload (m_iload (m_aload (m_callv hi))))))))))))))))
theorem mobz_451 : xBm bz_451 := fun dl fs i1 i2 fin hi => (m_iload (m_iconst (m_if2 (m_xgo hi) m_no)))
theorem mobz_452 : xBm bz_452 := fun dl fs i1 i2 fin hi => (m_iload (m_iconst (m_if2 (m_xgo hi) (m_iload (m_if1 (m_xgo hi) (m_iconst (m_xgo hi)))))))
theorem mobz_453 : xBm bz_453 := fun dl fs i1 i2 fin hi => (m_iconst (m_istore (m_aload (m_aload (m_aload (m_iload (m_iload (m_callv hi))))))))
theorem mobz_454 : xBm bz_454 := fun dl fs i1 i2 fin hi => (m_istore (m_aload (m_aload (m_aload (m_iload (m_iload (m_callv hi)))))))
theorem mobz_455 : xBm bz_455 := fun dl fs i1 i2 fin hi => (m_callv hi)
theorem mobz_456 : xBm bz_456 := fun dl fs i1 i2 fin hi => (m_iload (m_aload (m_callv hi)))
theorem mobz_457 : xBm bz_457 := fun dl fs i1 i2 fin hi => (m_iinc (m_xgo hi))
theorem mobz_458 : xBm bz_458 := fun dl fs i1 i2 fin hi => (m_ret hi)
theorem mobz_459 : xBm bz_459 := fun dl fs i1 i2 fin hi => (m_iload (m_iconst (m_if2 (m_xgo hi) m_no)))
theorem mobz_460 : xBm bz_460 := fun dl fs i1 i2 fin hi => (m_iload (m_iconst (m_if2 (m_xgo hi) (m_iload (m_iconst (m_if2 (m_xgo hi) (m_aload (m_iconst (m_callv hi)))))))))
theorem mobz_461 : xBm bz_461 := fun dl fs i1 i2 fin hi => (m_aload (m_iconst (m_callv hi)))
theorem mobz_462 : xBm bz_462 := fun dl fs i1 i2 fin hi => (m_aload (m_iconst (m_callv hi)))
theorem mobz_463 : xBm bz_463 := fun dl fs i1 i2 fin hi => (m_aload (m_iconst (m_callv hi)))
theorem mobz_464 : xBm bz_464 := fun dl fs i1 i2 fin hi => (m_xgo hi)
theorem mobz_465 : xBm bz_465 := fun dl fs i1 i2 fin hi => (m_iload (m_if1 (m_xgo hi) m_no))
theorem mobz_466 : xBm bz_466 := fun dl fs i1 i2 fin hi => (m_ret hi)
theorem mobz_467 : xBm bz_467 := fun dl fs i1 i2 fin hi => (m_aload (m_iload (m_iconst (m_callv hi))))
theorem mobz_468 : xBm bz_468 := fun dl fs i1 i2 fin hi => (m_if1 (m_xgo hi) (m_aload (m_dup (m_geti (m_iconst (m_bin (m_puti (m_aload (m_iload (m_iconst (m_aload (m_geti (m_callv hi)))))))))))))
theorem mobz_469 : xBm bz_469 := fun dl fs i1 i2 fin hi => (m_aload (m_iload (m_iconst (m_callv hi))))
theorem mobz_470 : xBm bz_470 := fun dl fs i1 i2 fin hi => (m_iconst (m_bin (m_istore (m_aload (m_iconst (m_iload (m_iconst (m_divr (m_bin (m_callv hi))))))))))
theorem mobz_471 : xBm bz_471 := fun dl fs i1 i2 fin hi => (m_iload (m_iconst (m_if2 (m_xgo hi) m_no)))
theorem mobz_472 : xBm bz_472 := fun dl fs i1 i2 fin hi => (m_ret hi)
theorem mobz_473 : xBm bz_473 := fun dl fs i1 i2 fin hi => (m_iload (m_iconst (m_if2 (m_xgo hi) (m_aload (m_getr (m_iload (m_dup2 (m_lald (m_iload (m_i2l (m_iconst (m_iload (m_bin (m_lsh (m_lbin (m_last (m_xgo hi)))))))))))))))))
theorem mobz_474 : xBm bz_474 := fun dl fs i1 i2 fin hi => (m_aload (m_getr (m_iload (m_iload (m_iconst (m_bin (m_iconst (m_divr (m_bin (m_dup2 (m_lald (m_iload (m_i2l (m_iconst (m_iload (m_iconst (m_bin (m_iconst (m_divr (m_bin (m_lsh (m_lbin (m_xgo hi)))))))))))))))))))))))
theorem mobz_475 : xBm bz_475 := fun dl fs i1 i2 fin hi => (m_ret hi)
theorem mobz_476 : xBm bz_476 := fun dl fs i1 i2 fin hi => (m_aload (m_getr (m_getr (m_iload (m_ald (m_istore (m_aload (m_iconst (m_puti (m_aload (m_iload (m_iconst (m_bin (m_aload (m_getr (m_getr (m_iload (m_ald (m_iload (m_callv hi))))))))))))))))))))
theorem mobz_477 : xBm bz_477 := fun dl fs i1 i2 fin hi => (m_aload (m_getr (m_getr (m_aload (m_getr (m_getr (m_iload (m_ald (m_ald (m_iret hi))))))))))
theorem mobz_478 : xBm bz_478 := fun dl fs i1 i2 fin hi => (m_aload (m_iconst (m_putz (m_aload (m_iconst (m_puti (m_aload (m_aload (m_iload (m_callv hi))))))))))
theorem mobz_479 : xBm bz_479 := fun dl fs i1 i2 fin hi => (m_aload (m_iload (m_callv hi)))
theorem mobz_480 : xBm bz_480 := fun dl fs i1 i2 fin hi => (m_callv hi)
theorem mobz_481 : xBm bz_481 := fun dl fs i1 i2 fin hi => (m_istore (m_iconst (m_istore (m_iload (m_iconst (m_if2 (m_xgo hi) (m_aload (m_geti (m_if1 (m_xgo hi) (m_iload (m_if1 (m_xgo hi) (m_aload (m_getr (m_iconst (m_aload (m_geti (m_bin (m_lald (m_l2i (m_iconst (m_bin (m_istore (m_xgo hi)))))))))))))))))))))))
theorem mobz_482 : xBm bz_482 := fun dl fs i1 i2 fin hi => (m_iload (m_iconst (m_if2 (m_xgo hi) (m_aload (m_geti (m_if1 (m_xgo hi) (m_iload (m_if1 (m_xgo hi) (m_aload (m_getr (m_iconst (m_aload (m_geti (m_bin (m_lald (m_l2i (m_iconst (m_bin (m_istore (m_aload (m_getr (m_iconst (m_xgo hi)))))))))))))))))))))))
theorem mobz_483 : xBm bz_483 := fun dl fs i1 i2 fin hi => (m_istore (m_iload (m_aload (m_getr (m_aload (m_iload (m_callv hi)))))))
theorem mobz_484 : xBm bz_484 := fun dl fs i1 i2 fin hi => (m_callv hi)
theorem mobz_485 : xBm bz_485 := fun dl fs i1 i2 fin hi => (m_if2 (m_xgo hi) (m_aload (m_dup (m_geti (m_iconst (m_bin (m_puti (m_xgo hi))))))))
theorem mobz_486 : xBm bz_486 := fun dl fs i1 i2 fin hi => (m_aload (m_getr (m_iconst (m_aload (m_geti (m_bin (m_dup2 (m_lald (m_lconst (m_lbin (m_last (m_aload (m_aload (m_aload (m_iload (m_iload (m_callv hi)))))))))))))))))
theorem mobz_487 : xBm bz_487 := fun dl fs i1 i2 fin hi => (m_callv hi)
theorem mobz_488 : xBm bz_488 := fun dl fs i1 i2 fin hi => (m_aload (m_aload (m_iload (m_iload (m_callv hi)))))
theorem mobz_489 : xBm bz_489 := fun dl fs i1 i2 fin hi => (m_callv hi)
theorem mobz_490 : xBm bz_490 := fun dl fs i1 i2 fin hi => (m_callv hi)
theorem mobz_491 : xBm bz_491 := fun dl fs i1 i2 fin hi => (m_istore (m_iinc (m_xgo hi)))
theorem mobz_492 : xBm bz_492 := fun dl fs i1 i2 fin hi => (m_iinc (m_xgo hi))
theorem mobz_493 : xBm bz_493 := fun dl fs i1 i2 fin hi => (m_iload (m_if1 m_no (m_aload (m_geti (m_if1 (m_xgo hi) (m_aload (m_aload (m_iload (m_callv hi)))))))))
theorem mobz_494 : xBm bz_494 := fun dl fs i1 i2 fin hi => (m_callv hi)
theorem mobz_495 : xBm bz_495 := fun dl fs i1 i2 fin hi => (m_if1 (m_xgo hi) m_no)
theorem mobz_496 : xBm bz_496 := fun dl fs i1 i2 fin hi => (m_ret hi)
theorem mobz_497 : xBm bz_497 := fun dl fs i1 i2 fin hi => (m_aload (m_iconst (m_iconst (m_callv hi))))
theorem mobz_498 : xBm bz_498 := fun dl fs i1 i2 fin hi => (m_iret hi)
theorem mobz_499 : xBm bz_499 := fun dl fs i1 i2 fin hi => (m_iconst (m_istore (m_iload (m_aload (m_geti (m_if2 (m_xgo hi) (m_aload (m_getr (m_iload (m_ald (m_iload (m_if2 (m_xgo hi) (m_aload (m_getr (m_iload (m_ald (m_iret hi)))))))))))))))))
theorem mobz_500 : xBm bz_500 := fun dl fs i1 i2 fin hi => (m_iload (m_aload (m_geti (m_if2 (m_xgo hi) (m_aload (m_getr (m_iload (m_ald (m_iload (m_if2 (m_xgo hi) (m_aload (m_getr (m_iload (m_ald (m_iret hi)))))))))))))))
theorem mobz_501 : xBm bz_501 := fun dl fs i1 i2 fin hi => (m_iinc (m_xgo hi))
theorem mobz_502 : xBm bz_502 := fun dl fs i1 i2 fin hi => (m_aload (m_iload (m_if1 (m_xgo hi) (m_iconst (m_xgo hi)))))
theorem mobz_503 : xBm bz_503 := fun dl fs i1 i2 fin hi => (m_iconst (m_iconst (m_callv hi)))
theorem mobz_504 : xBm bz_504 := fun dl fs i1 i2 fin hi => (m_iconst (m_callv hi))
theorem mobz_505 : xBm bz_505 := fun dl fs i1 i2 fin hi => (m_istore (m_aload (m_geti (m_iconst (m_if2 (m_xgo hi) (m_aload (m_getr (m_aload (m_geti (m_iload (m_ast (m_aload (m_getr (m_aload (m_geti (m_iload (m_ast (m_aload (m_dup (m_geti (m_iconst (m_bin (m_xgo hi)))))))))))))))))))))))
theorem mobz_506 : xBm bz_506 := fun dl fs i1 i2 fin hi => (m_aload (m_dup (m_geti (m_iconst (m_bin (m_puti (m_aload (m_iconst (m_iload (m_iload (m_callv hi)))))))))))
theorem mobz_507 : xBm bz_507 := fun dl fs i1 i2 fin hi => (m_ret hi)
theorem mobz_508 : xBm bz_508 := fun dl fs i1 i2 fin hi => (m_aload (m_dup (m_geti (m_iload (m_bin (m_puti (m_iload (m_istore (m_iconst (m_istore (m_xgo hi)))))))))))
theorem mobz_509 : xBm bz_509 := fun dl fs i1 i2 fin hi => (m_iload (m_iload (m_if2 (m_xgo hi) (m_aload (m_iload (m_iload (m_aload (m_iload (m_iload (m_iload (m_iconst (m_bin (m_iload (m_bin (m_bin (m_callv hi))))))))))))))))
theorem mobz_510 : xBm bz_510 := fun dl fs i1 i2 fin hi => (m_callv hi)
theorem mobz_511 : xBm bz_511 := fun dl fs i1 i2 fin hi => (m_aload (m_getr (m_getr (m_iload (m_ald (m_istore (m_iinc (m_xgo hi))))))))
theorem mobz_512 : xBm bz_512 := fun dl fs i1 i2 fin hi => (m_ret hi)
theorem mobz_513 : xBm bz_513 := fun dl fs i1 i2 fin hi => (m_aload (m_dup (m_geti (m_iload (m_bin (m_puti (m_iload (m_istore (m_iload (m_istore (m_iconst (m_istore (m_xgo hi)))))))))))))
theorem mobz_514 : xBm bz_514 := fun dl fs i1 i2 fin hi => (m_iload (m_iload (m_if2 (m_xgo hi) (m_aload (m_iload (m_iload (m_aload (m_iload (m_iconst (m_callv hi))))))))))
theorem mobz_515 : xBm bz_515 := fun dl fs i1 i2 fin hi => (m_callv hi)
theorem mobz_516 : xBm bz_516 := fun dl fs i1 i2 fin hi => (m_aload (m_iload (m_iconst (m_callv hi))))
theorem mobz_517 : xBm bz_517 := fun dl fs i1 i2 fin hi => (m_istore (m_aload (m_getr (m_getr (m_iload (m_ald (m_istore (m_iinc (m_xgo hi)))))))))
theorem mobz_518 : xBm bz_518 := fun dl fs i1 i2 fin hi => (m_ret hi)
theorem mobz_519 : xBm bz_519 := fun dl fs i1 i2 fin hi => (m_aload (m_geti (m_iconst (m_if2 (m_xgo hi) (m_aload (m_getr (m_aload (m_geti (m_iload (m_bin (m_iload (m_i2l (m_iconst (m_lsh (m_iload (m_i2l (m_lbin (m_last (m_ret hi)))))))))))))))))))
theorem mobz_520 : xBm bz_520 := fun dl fs i1 i2 fin hi => (m_iconst (m_istore (m_iload (m_istore (m_iload (m_if1 (m_xgo hi) m_no))))))
theorem mobz_521 : xBm bz_521 := fun dl fs i1 i2 fin hi => (m_aload (m_dup (m_geti (m_iload (m_bin (m_puti (m_iconst (m_istore (m_iload (m_istore (m_iload (m_if1 (m_xgo hi) m_no))))))))))))
theorem mobz_522 : xBm bz_522 := fun dl fs i1 i2 fin hi => (m_ret hi)
theorem mobz_523 : xBm bz_523 := fun dl fs i1 i2 fin hi => (m_aload (m_getr (m_getr (m_iload (m_ald (m_istore (m_aload (m_aload (m_getr (m_getr (m_iload (m_ald (m_iconst (m_callv hi))))))))))))))
theorem mobz_524 : xBm bz_524 := fun dl fs i1 i2 fin hi => (m_istore (m_iload (m_istore (m_aload (m_getr (m_aload (m_getr (m_getr (m_iload (m_ald (m_callv hi)))))))))))
theorem mobz_525 : xBm bz_525 := fun dl fs i1 i2 fin hi => (m_istore (m_iconst (m_istore (m_iload (m_iload (m_if2 (m_xgo hi) (m_aload (m_iload (m_iconst (m_callv hi))))))))))
theorem mobz_526 : xBm bz_526 := fun dl fs i1 i2 fin hi => (m_iload (m_iload (m_if2 (m_xgo hi) (m_aload (m_iload (m_iconst (m_callv hi)))))))
theorem mobz_527 : xBm bz_527 := fun dl fs i1 i2 fin hi => (m_istore (m_iinc (m_xgo hi)))
theorem mobz_528 : xBm bz_528 := fun dl fs i1 i2 fin hi => (m_aload (m_getr (m_getr (m_iload (m_ald (m_iconst (m_if2 m_no (m_aload (m_aload (m_getr (m_getr (m_iload (m_ald (m_iload (m_callv hi)))))))))))))))
theorem mobz_529 : xBm bz_529 := fun dl fs i1 i2 fin hi => (m_xgo hi)
theorem mobz_530 : xBm bz_530 := fun dl fs i1 i2 fin hi => (m_aload (m_aload (m_getr (m_getr (m_iload (m_ald (m_callv hi)))))))
theorem mobz_531 : xBm bz_531 := fun dl fs i1 i2 fin hi => (m_aload (m_aload (m_getr (m_getr (m_iload (m_ald (m_iload (m_iload (m_callv hi)))))))))
theorem mobz_532 : xBm bz_532 := fun dl fs i1 i2 fin hi => (m_ret hi)
theorem mobz_533 : xBm bz_533 := fun dl fs i1 i2 fin hi => (m_iconst (m_istore (m_iload (m_iconst (m_if2 (m_xgo hi) (m_aload (m_geti (m_if1 (m_xgo hi) (m_aload (m_geti (m_if1 (m_xgo hi) (m_aload (m_geti (m_iconst (m_if2 m_no (m_aload (m_geti (m_iconst (m_if2 (m_xgo hi) m_no)))))))))))))))))))
theorem mobz_534 : xBm bz_534 := fun dl fs i1 i2 fin hi => (m_iload (m_iconst (m_if2 (m_xgo hi) (m_aload (m_geti (m_if1 (m_xgo hi) (m_aload (m_geti (m_if1 (m_xgo hi) (m_aload (m_geti (m_iconst (m_if2 m_no (m_aload (m_geti (m_iconst (m_if2 (m_xgo hi) m_no)))))))))))))))))
theorem mobz_535 : xBm bz_535 := fun dl fs i1 i2 fin hi => (m_aload (m_dup (m_geti (m_iconst (m_bin (m_puti (m_aload (m_getr (m_aload (m_geti (m_lald (m_l2i (m_istore (m_aload (m_getr (m_aload (m_geti (m_lald (m_iconst (m_lsh (m_l2i (m_istore (m_xgo hi)))))))))))))))))))))))
theorem mobz_536 : xBm bz_536 := fun dl fs i1 i2 fin hi => (m_xgo hi)
theorem mobz_537 : xBm bz_537 := fun dl fs i1 i2 fin hi => (m_aload (m_iload (m_iload (m_callv hi))))
theorem mobz_538 : xBm bz_538 := fun dl fs i1 i2 fin hi => (m_iinc (m_xgo hi))
theorem mobz_539 : xBm bz_539 := fun dl fs i1 i2 fin hi => (m_ret hi)
theorem mobz_540 : xBm bz_540 := fun dl fs i1 i2 fin hi => (m_aload (m_obj (m_aload (m_iconst (m_newa (m_putr (m_aload (m_iconst (m_newa (m_putr (m_aload (m_iconst (m_newa (m_putr (m_aload (m_iconst (m_newa (m_putr (m_aload (m_iconst (m_newa (m_putr (m_xgo hi)))))))))))))))))))))))
theorem mobz_541 : xBm bz_541 := fun dl fs i1 i2 fin hi => (m_aload (m_getr (m_iconst (m_iload (m_aload (m_geti (m_iconst (m_bin (m_mmin (m_mmax (m_lald (m_l2i (m_iconst (m_ishra (m_iret hi)))))))))))))))
theorem mobz_542 : xBm bz_542 := fun dl fs i1 i2 fin hi => (m_aload (m_getr (m_iload (m_ald (m_istore (m_aload (m_getr (m_iload (m_iconst (m_bin (m_ald (m_iload (m_bin (m_iload (m_iload (m_bin (m_if2 (m_xgo hi) (m_iconst (m_zret hi)))))))))))))))))))
theorem mobz_543 : xBm bz_543 := fun dl fs i1 i2 fin hi => (m_iload (m_istore (m_iload (m_iload (m_if2 (m_xgo hi) (m_aload (m_getr (m_iload (m_iload (m_bin (m_iload (m_bin (m_ald (m_aload (m_iload (m_ald (m_if2 (m_xgo hi) m_no)))))))))))))))))
theorem mobz_544 : xBm bz_544 := fun dl fs i1 i2 fin hi => (m_iload (m_iload (m_if2 (m_xgo hi) (m_aload (m_getr (m_iload (m_iload (m_bin (m_iload (m_bin (m_ald (m_aload (m_iload (m_ald (m_if2 (m_xgo hi) m_no)))))))))))))))
theorem mobz_545 : xBm bz_545 := fun dl fs i1 i2 fin hi => (m_iinc (m_xgo hi))
theorem mobz_546 : xBm bz_546 := fun dl fs i1 i2 fin hi => (m_iconst (m_zret hi))
theorem mobz_547 : xBm bz_547 := fun dl fs i1 i2 fin hi => (m_iload (m_calls hi))
theorem mobz_548 : xBm bz_548 := fun dl fs i1 i2 fin hi => (m_if1 (m_xgo hi) (m_iload (m_calls hi)))
theorem mobz_549 : xBm bz_549 := fun dl fs i1 i2 fin hi => (m_if1 (m_xgo hi) (m_iload (m_iconst (m_if2 (m_xgo hi) (m_iload (m_iconst (m_if2 (m_xgo hi) (m_iconst (m_xgo hi)))))))))
theorem mobz_550 : xBm bz_550 := fun dl fs i1 i2 fin hi => (m_iconst (m_xgo hi))
theorem mobz_551 : xBm bz_551 := fun dl fs i1 i2 fin hi => (m_iconst (m_zret hi))
theorem mobz_552 : xBm bz_552 := fun dl fs i1 i2 fin hi => (m_zret hi)
theorem mobz_553 : xBm bz_553 := fun dl fs i1 i2 fin hi => (m_iload (m_iconst (m_if2 (m_xgo hi) (m_iload (m_iconst (m_if2 (m_xgo hi) (m_iconst (m_xgo hi))))))))
theorem mobz_554 : xBm bz_554 := fun dl fs i1 i2 fin hi => (m_iconst (m_zret hi))
theorem mobz_555 : xBm bz_555 := fun dl fs i1 i2 fin hi => (m_zret hi)
theorem mobz_556 : xBm bz_556 := fun dl fs i1 i2 fin hi => (m_iload (m_iconst (m_if2 (m_xgo hi) (m_iload (m_iconst (m_if2 (m_xgo hi) (m_iload (m_iconst (m_if2 (m_xgo hi) (m_iload (m_iconst (m_if2 (m_xgo hi) (m_xgo hi)))))))))))))
theorem mobz_557 : xBm bz_557 := fun dl fs i1 i2 fin hi => (m_iload (m_iconst (m_if2 (m_xgo hi) (m_iload (m_iconst (m_if2 (m_xgo hi) (m_iconst (m_xgo hi))))))))
theorem mobz_558 : xBm bz_558 := fun dl fs i1 i2 fin hi => (m_iconst (m_xgo hi))
theorem mobz_559 : xBm bz_559 := fun dl fs i1 i2 fin hi => (m_iconst (m_zret hi))
theorem mobz_560 : xBm bz_560 := fun dl fs i1 i2 fin hi => (m_zret hi)
theorem mobz_561 : xBm bz_561 := fun dl fs i1 i2 fin hi => (m_iload (m_iconst (m_if2 (m_xgo hi) (m_text (m_iload (m_un (m_callt hi)))))))
theorem mobz_562 : xBm bz_562 := fun dl fs i1 i2 fin hi => (m_if1 (m_xgo hi) (m_iconst (m_xgo hi)))
theorem mobz_563 : xBm bz_563 := fun dl fs i1 i2 fin hi => (m_iconst (m_zret hi))
theorem mobz_564 : xBm bz_564 := fun dl fs i1 i2 fin hi => (m_zret hi)
theorem mobz_565 : xBm bz_565 := fun dl fs i1 i2 fin hi => (m_iload (m_aload (m_geti (m_if2 m_no (m_aload (m_getr (m_iload (m_lald (m_l2i (m_iconst (m_bin (m_xgo hi))))))))))))
theorem mobz_566 : xBm bz_566 := fun dl fs i1 i2 fin hi => (m_iret hi)
theorem mobz_567 : xBm bz_567 := fun dl fs i1 i2 fin hi => (m_iconst (m_istore (m_iload (m_istore (m_iload (m_iload (m_if2 (m_xgo hi) (m_iload (m_iconst (m_bin (m_aload (m_iload (m_ald (m_bin (m_istore (m_iinc (m_xgo hi)))))))))))))))))
theorem mobz_568 : xBm bz_568 := fun dl fs i1 i2 fin hi => (m_iload (m_iload (m_if2 (m_xgo hi) (m_iload (m_iconst (m_bin (m_aload (m_iload (m_ald (m_bin (m_istore (m_iinc (m_xgo hi)))))))))))))
theorem mobz_569 : xBm bz_569 := fun dl fs i1 i2 fin hi => (m_iload (m_iconst (m_bin (m_istore (m_aload (m_getr (m_iload (m_ald (m_istore (m_xgo hi))))))))))
theorem mobz_570 : xBm bz_570 := fun dl fs i1 i2 fin hi => (m_iload (m_if1 (m_xgo hi) (m_aload (m_iload (m_iconst (m_bin (m_aload (m_iload (m_iload (m_callv hi))))))))))
theorem mobz_571 : xBm bz_571 := fun dl fs i1 i2 fin hi => (m_if1 (m_xgo hi) (m_iload (m_iconst (m_bin (m_iret hi)))))
theorem mobz_572 : xBm bz_572 := fun dl fs i1 i2 fin hi => (m_aload (m_getr (m_iload (m_iconst (m_bin (m_ald (m_istore (m_xgo hi))))))))
theorem mobz_573 : xBm bz_573 := fun dl fs i1 i2 fin hi => (m_aload (m_geti (m_iconst (m_if2 m_no (m_aload (m_getr (m_aload (m_geti (m_ald (m_iload (m_bin (m_iload (m_bin (m_iconst (m_if2 (m_xgo hi) m_no)))))))))))))))
theorem mobz_574 : xBm bz_574 := fun dl fs i1 i2 fin hi => (m_aload (m_iload (m_aload (m_getr (m_aload (m_getr (m_aload (m_geti (m_ald (m_iload (m_iload (m_bin (m_copy (m_aload (m_getr (m_aload (m_geti (m_iconst (m_bin (m_aload (m_getr (m_aload (m_xgo hi)))))))))))))))))))))))
theorem mobz_575 : xBm bz_575 := fun dl fs i1 i2 fin hi => (m_aload (m_geti (m_iconst (m_if2 (m_xgo hi) (m_aload (m_getr (m_aload (m_geti (m_iload (m_i2l (m_iconst (m_lsh (m_iload (m_iconst (m_ishl (m_i2l (m_lbin (m_iload (m_i2l (m_lbin (m_last (m_aload (m_xgo hi)))))))))))))))))))))))
theorem mobz_576 : xBm bz_576 := fun dl fs i1 i2 fin hi => (m_aload (m_iconst (m_puti (m_aload (m_iconst (m_puti (m_aload (m_iconst (m_putz (m_iconst (m_istore (m_xgo hi))))))))))))
theorem mobz_577 : xBm bz_577 := fun dl fs i1 i2 fin hi => (m_iload (m_iload (m_if2 (m_xgo hi) (m_aload (m_geti (m_if1 (m_xgo hi) (m_aload (m_aload (m_iload (m_iload (m_callv hi)))))))))))
theorem mobz_578 : xBm bz_578 := fun dl fs i1 i2 fin hi => (m_istore (m_xgo hi))
theorem mobz_579 : xBm bz_579 := fun dl fs i1 i2 fin hi => (m_aload (m_iconst (m_iload (m_iconst (m_callv hi)))))
theorem mobz_580 : xBm bz_580 := fun dl fs i1 i2 fin hi => (m_ret hi)
theorem mobz_581 : xBm bz_581 := fun dl fs i1 i2 fin hi => (m_iconst (m_istore (m_iconst (m_istore (m_iload (m_iload (m_if2 (m_xgo hi) (m_aload (m_iload (m_ald (m_iconst (m_if2 (m_xgo hi) (m_aload (m_aload (m_iload (m_iload (m_callv hi)))))))))))))))))
theorem mobz_582 : xBm bz_582 := fun dl fs i1 i2 fin hi => (m_iload (m_iload (m_if2 (m_xgo hi) (m_aload (m_iload (m_ald (m_iconst (m_if2 (m_xgo hi) (m_aload (m_aload (m_iload (m_iload (m_callv hi)))))))))))))
theorem mobz_583 : xBm bz_583 := fun dl fs i1 i2 fin hi => (m_pop (m_iload (m_iconst (m_bin (m_istore (m_iinc (m_xgo hi)))))))
theorem mobz_584 : xBm bz_584 := fun dl fs i1 i2 fin hi => (m_iinc (m_xgo hi))
theorem mobz_585 : xBm bz_585 := fun dl fs i1 i2 fin hi => (m_ret hi)
theorem mobz_586 : xBm bz_586 := fun dl fs i1 i2 fin hi => (m_iload (m_istore (m_iconst (m_istore (m_iload (m_iload (m_if2 (m_xgo hi) (m_iload (m_iload (m_iconst (m_bin (m_if2 (m_xgo hi) (m_aload (m_iload (m_ald (m_iconst (m_bin (m_calls hi))))))))))))))))))
theorem mobz_587 : xBm bz_587 := fun dl fs i1 i2 fin hi => (m_iload (m_iload (m_if2 (m_xgo hi) (m_iload (m_iload (m_iconst (m_bin (m_if2 (m_xgo hi) (m_aload (m_iload (m_ald (m_iconst (m_bin (m_calls hi))))))))))))))
theorem mobz_588 : xBm bz_588 := fun dl fs i1 i2 fin hi => (m_if1 (m_xgo hi) (m_iload (m_iconst (m_bin (m_aload (m_iload (m_ald (m_bin (m_iconst (m_bin (m_istore (m_iinc (m_xgo hi)))))))))))))
theorem mobz_589 : xBm bz_589 := fun dl fs i1 i2 fin hi => (m_iload (m_iload (m_if2 (m_xgo hi) (m_aload (m_iload (m_ald (m_iconst (m_bin (m_calls hi)))))))))
theorem mobz_590 : xBm bz_590 := fun dl fs i1 i2 fin hi => (m_if1 (m_xgo hi) m_no)
theorem mobz_591 : xBm bz_591 := fun dl fs i1 i2 fin hi => (m_aload (m_iconst (m_iload (m_iload (m_callv hi)))))
theorem mobz_592 : xBm bz_592 := fun dl fs i1 i2 fin hi => (m_iload (m_iret hi))
theorem mobz_593 : xBm bz_593 := fun dl fs i1 i2 fin hi => (m_iload (m_iconst (m_bin (m_istore (m_iload (m_iload (m_if2 (m_xgo hi) (m_aload (m_iload (m_ald (m_iconst (m_bin (m_calls hi)))))))))))))
theorem mobz_594 : xBm bz_594 := fun dl fs i1 i2 fin hi => (m_iload (m_iload (m_if2 (m_xgo hi) (m_aload (m_iload (m_ald (m_iconst (m_bin (m_calls hi)))))))))
theorem mobz_595 : xBm bz_595 := fun dl fs i1 i2 fin hi => (m_if1 (m_xgo hi) (m_iinc (m_xgo hi)))
theorem mobz_596 : xBm bz_596 := fun dl fs i1 i2 fin hi => (m_aload (m_aload (m_iload (m_iload (m_callv hi)))))
theorem mobz_597 : xBm bz_597 := fun dl fs i1 i2 fin hi => (m_istore (m_aload (m_iload (m_ald (m_iconst (m_bin (m_istore (m_iload (m_iconst (m_if2 (m_xgo hi) (m_iload (m_iconst (m_if2 (m_xgo hi) (m_aload (m_iconst (m_iload (m_iload (m_callv hi))))))))))))))))))
theorem mobz_598 : xBm bz_598 := fun dl fs i1 i2 fin hi => (m_xgo hi)
theorem mobz_599 : xBm bz_599 := fun dl fs i1 i2 fin hi => (m_aload (m_iload (m_iconst (m_if2 (m_xgo hi) (m_iload (m_xgo hi))))))
theorem mobz_600 : xBm bz_600 := fun dl fs i1 i2 fin hi => (m_iconst (m_iload (m_iload (m_callv hi))))
theorem mobz_601 : xBm bz_601 := fun dl fs i1 i2 fin hi => (m_iload (m_iload (m_callv hi)))
theorem mobz_602 : xBm bz_602 := fun dl fs i1 i2 fin hi => (m_iload (m_iret hi))
theorem mobz_603 : xBm bz_603 := fun dl fs i1 i2 fin hi => (m_aload (m_iload (m_ald (m_iconst (m_bin (m_istore (m_iload (m_iconst (m_if2 (m_xgo hi) (m_iload (m_iconst (m_if2 (m_xgo hi) (m_xgo hi)))))))))))))
theorem mobz_604 : xBm bz_604 := fun dl fs i1 i2 fin hi => (m_iload (m_iconst (m_bin (m_iret hi))))
theorem mobz_605 : xBm bz_605 := fun dl fs i1 i2 fin hi => (m_iload (m_calls hi))
theorem mobz_606 : xBm bz_606 := fun dl fs i1 i2 fin hi => (m_if1 (m_xgo hi) (m_aload (m_aload (m_iload (m_iload (m_callv hi))))))
theorem mobz_607 : xBm bz_607 := fun dl fs i1 i2 fin hi => (m_iret hi)
theorem mobz_608 : xBm bz_608 := fun dl fs i1 i2 fin hi => (m_aload (m_geti (m_if1 (m_xgo hi) (m_aload (m_iload (m_if1 m_no (m_iload (m_iconst (m_bin (m_xgo hi))))))))))
theorem mobz_609 : xBm bz_609 := fun dl fs i1 i2 fin hi => (m_ald (m_iconst (m_if2 (m_xgo hi) (m_aload (m_iconst (m_iload (m_iconst (m_callv hi))))))))
theorem mobz_610 : xBm bz_610 := fun dl fs i1 i2 fin hi => (m_iload (m_calls hi))
theorem mobz_611 : xBm bz_611 := fun dl fs i1 i2 fin hi => (m_if1 (m_xgo hi) (m_aload (m_aload (m_iload (m_iload (m_callv hi))))))
theorem mobz_612 : xBm bz_612 := fun dl fs i1 i2 fin hi => (m_iret hi)
theorem mobz_613 : xBm bz_613 := fun dl fs i1 i2 fin hi => (m_iload (m_calls hi))
theorem mobz_614 : xBm bz_614 := fun dl fs i1 i2 fin hi => (m_if1 (m_xgo hi) (m_iload (m_iconst (m_if2 (m_xgo hi) (m_aload (m_aload (m_iload (m_iload (m_callv hi)))))))))
theorem mobz_615 : xBm bz_615 := fun dl fs i1 i2 fin hi => (m_aload (m_aload (m_iload (m_iload (m_callv hi)))))
theorem mobz_616 : xBm bz_616 := fun dl fs i1 i2 fin hi => (m_iret hi)
theorem mobz_617 : xBm bz_617 := fun dl fs i1 i2 fin hi => (m_text (m_iload (m_un (m_callt hi))))
theorem mobz_618 : xBm bz_618 := fun dl fs i1 i2 fin hi => (m_istore (m_iload (m_if1 (m_xgo hi) m_no)))
theorem mobz_619 : xBm bz_619 := fun dl fs i1 i2 fin hi => (m_aload (m_iconst (m_iload (m_bin (m_iload (m_iconst (m_callv hi)))))))
theorem mobz_620 : xBm bz_620 := fun dl fs i1 i2 fin hi => (m_iload (m_iconst (m_bin (m_iret hi))))
theorem mobz_621 : xBm bz_621 := fun dl fs i1 i2 fin hi => (m_iload (m_istore (m_iconst (m_istore (m_iload (m_iload (m_if2 (m_xgo hi) (m_aload (m_iload (m_ald (m_iconst (m_bin (m_calls hi)))))))))))))
theorem mobz_622 : xBm bz_622 := fun dl fs i1 i2 fin hi => (m_iload (m_iload (m_if2 (m_xgo hi) (m_aload (m_iload (m_ald (m_iconst (m_bin (m_calls hi)))))))))
theorem mobz_623 : xBm bz_623 := fun dl fs i1 i2 fin hi => (m_if1 (m_xgo hi) (m_iload (m_if1 (m_xgo hi) (m_aload (m_iload (m_ald (m_iconst (m_if2 (m_xgo hi) (m_iconst (m_xgo hi))))))))))
theorem mobz_624 : xBm bz_624 := fun dl fs i1 i2 fin hi => (m_iconst (m_istore (m_iinc (m_xgo hi))))
theorem mobz_625 : xBm bz_625 := fun dl fs i1 i2 fin hi => (m_istore (m_iinc (m_xgo hi)))
theorem mobz_626 : xBm bz_626 := fun dl fs i1 i2 fin hi => (m_iload (m_if1 (m_xgo hi) (m_iload (m_iload (m_bin (m_iconst (m_if2 (m_xgo hi) m_no)))))))
theorem mobz_627 : xBm bz_627 := fun dl fs i1 i2 fin hi => (m_aload (m_geti (m_if1 (m_xgo hi) (m_aload (m_iload (m_if1 m_no (m_iload (m_iconst (m_bin (m_xgo hi))))))))))
theorem mobz_628 : xBm bz_628 := fun dl fs i1 i2 fin hi => (m_ald (m_iconst (m_if2 (m_xgo hi) m_no)))
theorem mobz_629 : xBm bz_629 := fun dl fs i1 i2 fin hi => (m_aload (m_aload (m_iload (m_iload (m_callv hi)))))
theorem mobz_630 : xBm bz_630 := fun dl fs i1 i2 fin hi => (m_istore (m_aload (m_iload (m_iconst (m_if2 (m_xgo hi) (m_iload (m_xgo hi)))))))
theorem mobz_631 : xBm bz_631 := fun dl fs i1 i2 fin hi => (m_iconst (m_iload (m_iload (m_callv hi))))
theorem mobz_632 : xBm bz_632 := fun dl fs i1 i2 fin hi => (m_iload (m_iload (m_callv hi)))
theorem mobz_633 : xBm bz_633 := fun dl fs i1 i2 fin hi => (m_iload (m_iret hi))
theorem mobz_634 : xBm bz_634 := fun dl fs i1 i2 fin hi => (m_aload (m_getr (m_iconst (m_iload (m_aload (m_geti (m_iconst (m_bin (m_mmin (m_mmax (m_lald (m_iconst (m_lsh (m_l2i (m_iret hi)))))))))))))))
theorem mobz_635 : xBm bz_635 := fun dl fs i1 i2 fin hi => (m_aload (m_obj (m_aload (m_iconst (m_newa (m_putr (m_aload (m_iconst (m_newa (m_putr (m_aload (m_iconst (m_newa (m_putr (m_aload (m_iconst (m_newa (m_putr (m_aload (m_iconst (m_newa (m_putr (m_xgo hi)))))))))))))))))))))))
theorem mobz_636 : xBm bz_636 := fun dl fs i1 i2 fin hi => (m_putr (m_aload (m_new (m_dup (m_aload (m_aload (m_getr (m_calli hi))))))))
theorem mobz_637 : xBm bz_637 := fun dl fs i1 i2 fin hi => (m_putr (m_aload (m_new (m_dup (m_aload (m_aload (m_aload (m_getr (m_aload (m_getr (m_calli hi)))))))))))
theorem mobz_638 : xBm bz_638 := fun dl fs i1 i2 fin hi => (m_putr (m_ret hi))
theorem mobz_639 : xBm bz_639 := fun dl fs i1 i2 fin hi => (m_aload (m_obj (m_aload (m_iconst (m_newa (m_putr (m_aload (m_iconst (m_newa (m_putr (m_aload (m_iconst (m_newa (m_putr (m_aload (m_iconst (m_newa (m_putr (m_aload (m_iconst (m_newa (m_putr (m_xgo hi)))))))))))))))))))))))
theorem mobz_640 : xBm bz_640 := fun dl fs i1 i2 fin hi => (m_aload (m_geti (m_iconst (m_if2 (m_xgo hi) m_no))))
theorem mobz_641 : xBm bz_641 := fun dl fs i1 i2 fin hi => (m_iconst (m_zret hi))
theorem mobz_642 : xBm bz_642 := fun dl fs i1 i2 fin hi => (m_aload (m_getr (m_getr (m_iload (m_ald (m_istore (m_iload (m_aload (m_getr (m_getr (m_iload (m_iconst (m_bin (m_ald (m_if2 (m_xgo hi) (m_aload (m_aload (m_getr (m_getr (m_iload (m_ald (m_callv hi))))))))))))))))))))))
theorem mobz_643 : xBm bz_643 := fun dl fs i1 i2 fin hi => (m_iload (m_aload (m_getr (m_getr (m_iload (m_iconst (m_bin (m_ald (m_if2 (m_xgo hi) (m_aload (m_aload (m_getr (m_getr (m_iload (m_ald (m_callv hi))))))))))))))))
theorem mobz_644 : xBm bz_644 := fun dl fs i1 i2 fin hi => (m_iinc (m_xgo hi))
theorem mobz_645 : xBm bz_645 := fun dl fs i1 i2 fin hi => (m_ret hi)
theorem mobz_646 : xBm bz_646 := fun dl fs i1 i2 fin hi => (m_lload (m_lconst (m_lcmp (m_if1 (m_xgo hi) m_no))))
theorem mobz_647 : xBm bz_647 := fun dl fs i1 i2 fin hi => (m_iconst (m_istore (m_lload (m_lstore (m_lload (m_lconst (m_ldivr (m_lstore (m_aload (m_getr (m_iload (m_lconst (m_lload (m_lconst (m_lcmp (m_if1 (m_xgo hi) m_no))))))))))))))))
theorem mobz_648 : xBm bz_648 := fun dl fs i1 i2 fin hi => (m_lload (m_lbin (m_l2i (m_un (m_ast (m_iinc (m_lload (m_lconst (m_ldivr (m_lstore (m_lload (m_lconst (m_lcmp (m_if1 (m_xgo hi) m_no))))))))))))))
theorem mobz_649 : xBm bz_649 := fun dl fs i1 i2 fin hi => (m_iload (m_if1 (m_xgo hi) (m_iinc (m_aload (m_aload (m_getr (m_iload (m_ald (m_callv hi)))))))))
theorem mobz_650 : xBm bz_650 := fun dl fs i1 i2 fin hi => (m_xgo hi)
theorem mobz_651 : xBm bz_651 := fun dl fs i1 i2 fin hi => (m_ret hi)
theorem mobz_652 : xBm bz_652 := fun dl fs i1 i2 fin hi => (m_aload (m_geti (m_iconst (m_if2 (m_xgo hi) (m_aload (m_geti (m_iconst (m_divr (m_if1 (m_xgo hi) (m_lconst (m_xgo hi)))))))))))
theorem mobz_653 : xBm bz_653 := fun dl fs i1 i2 fin hi => (m_aload (m_getr (m_aload (m_geti (m_iconst (m_divr (m_lald (m_lstore (m_aload (m_getr (m_aload (m_geti (m_iconst (m_divr (m_lload (m_iload (m_i2l (m_lconst (m_lbin (m_iconst (m_aload (m_geti (m_xgo hi)))))))))))))))))))))))
theorem mobz_654 : xBm bz_654 := fun dl fs i1 i2 fin hi => (m_lstore (m_aload (m_getr (m_aload (m_geti (m_iconst (m_divr (m_lload (m_iload (m_i2l (m_lconst (m_lbin (m_iconst (m_aload (m_geti (m_iconst (m_divr (m_bin (m_lsh (m_lbin (m_last (m_aload (m_xgo hi)))))))))))))))))))))))
theorem mobz_655 : xBm bz_655 := fun dl fs i1 i2 fin hi => (m_aload (m_obj (m_aload (m_aload (m_putr (m_aload (m_aload (m_putr (m_ret hi)))))))))
theorem mobz_656 : xBm bz_656 := fun dl fs i1 i2 fin hi => (m_aload (m_getr (m_iconst (m_aload (m_getr (m_getr (m_iload (m_ald (m_iload (m_iload (m_callv hi)))))))))))
theorem mobz_657 : xBm bz_657 := fun dl fs i1 i2 fin hi => (m_istore (m_aload (m_getr (m_getr (m_iload (m_iload (m_ast (m_iload (m_iret hi)))))))))
theorem mobz_658 : xBm bz_658 := fun dl fs i1 i2 fin hi => (m_aload (m_callv hi))
theorem mobz_659 : xBm bz_659 := fun dl fs i1 i2 fin hi => (m_istore (m_aload (m_callv hi)))
theorem mobz_660 : xBm bz_660 := fun dl fs i1 i2 fin hi => (m_istore (m_aload (m_iconst (m_callv hi))))
theorem mobz_661 : xBm bz_661 := fun dl fs i1 i2 fin hi => (m_tablen (And.intro (m_xgo hi) (And.intro (m_xgo hi) (And.intro m_no (And.intro m_no (And.intro (m_xgo hi) (And.intro m_no (And.intro (m_xgo hi) True.intro))))))) m_no)
theorem mobz_662 : xBm bz_662 := fun dl fs i1 i2 fin hi => (m_aload (m_dup (m_geti (m_iconst (m_bin (m_puti (m_aload (m_getr (m_iconst (m_iload (m_iload (m_iconst (m_callv hi)))))))))))))
theorem mobz_663 : xBm bz_663 := fun dl fs i1 i2 fin hi => (m_iret hi)
theorem mobz_664 : xBm bz_664 := fun dl fs i1 i2 fin hi => (m_aload (m_dup (m_geti (m_iconst (m_bin (m_puti (m_aload (m_getr (m_iconst (m_iload (m_iload (m_iconst (m_callv hi)))))))))))))
theorem mobz_665 : xBm bz_665 := fun dl fs i1 i2 fin hi => (m_iret hi)
theorem mobz_666 : xBm bz_666 := fun dl fs i1 i2 fin hi => (m_aload (m_callv hi))
theorem mobz_667 : xBm bz_667 := fun dl fs i1 i2 fin hi => (m_aload (m_callv hi))
theorem mobz_668 : xBm bz_668 := fun dl fs i1 i2 fin hi => (m_if1 (m_xgo hi) m_no)
theorem mobz_669 : xBm bz_669 := fun dl fs i1 i2 fin hi => (m_aload (m_iload (m_callv hi)))
theorem mobz_670 : xBm bz_670 := fun dl fs i1 i2 fin hi => (m_istore (m_aload (m_iconst (m_callv hi))))
theorem mobz_671 : xBm bz_671 := fun dl fs i1 i2 fin hi => (m_iload (m_iret hi))
theorem mobz_672 : xBm bz_672 := fun dl fs i1 i2 fin hi => (m_aload (m_iload (m_callv hi)))
theorem mobz_673 : xBm bz_673 := fun dl fs i1 i2 fin hi => (m_iret hi)
theorem mobz_674 : xBm bz_674 := fun dl fs i1 i2 fin hi => (m_iconst (m_istore (m_iconst (m_istore (m_iconst (m_istore (m_iload (m_aload (m_getr (m_geti (m_if2 (m_xgo hi) (m_aload (m_iconst (m_callv hi))))))))))))))
theorem mobz_675 : xBm bz_675 := fun dl fs i1 i2 fin hi => (m_iconst (m_if2 (m_xgo hi) (m_aload (m_iconst (m_callv hi)))))
theorem mobz_676 : xBm bz_676 := fun dl fs i1 i2 fin hi => (m_iconst (m_if2 (m_xgo hi) m_no))
theorem mobz_677 : xBm bz_677 := fun dl fs i1 i2 fin hi => (m_aload (m_callv hi))
theorem mobz_678 : xBm bz_678 := fun dl fs i1 i2 fin hi => (m_istore (m_iload (m_if1 m_no (m_iload (m_iret hi)))))
theorem mobz_679 : xBm bz_679 := fun dl fs i1 i2 fin hi => (m_aload (m_callv hi))
theorem mobz_680 : xBm bz_680 := fun dl fs i1 i2 fin hi => (m_istore (m_aload (m_callv hi)))
theorem mobz_681 : xBm bz_681 := fun dl fs i1 i2 fin hi => (m_istore (m_aload (m_iconst (m_callv hi))))
theorem mobz_682 : xBm bz_682 := fun dl fs i1 i2 fin hi => (m_tablen (And.intro (m_xgo hi) (And.intro m_no (And.intro m_no (And.intro m_no (And.intro (m_xgo hi) (And.intro m_no (And.intro (m_xgo hi) True.intro))))))) m_no)
theorem mobz_683 : xBm bz_683 := fun dl fs i1 i2 fin hi => (m_aload (m_dup (m_geti (m_iconst (m_bin (m_puti (m_aload (m_getr (m_iconst (m_iload (m_iload (m_iconst (m_callv hi)))))))))))))
theorem mobz_684 : xBm bz_684 := fun dl fs i1 i2 fin hi => (m_iret hi)
theorem mobz_685 : xBm bz_685 := fun dl fs i1 i2 fin hi => (m_aload (m_callv hi))
theorem mobz_686 : xBm bz_686 := fun dl fs i1 i2 fin hi => (m_aload (m_callv hi))
theorem mobz_687 : xBm bz_687 := fun dl fs i1 i2 fin hi => (m_istore (m_aload (m_iconst (m_callv hi))))
theorem mobz_688 : xBm bz_688 := fun dl fs i1 i2 fin hi => (m_aload (m_getr (m_iconst (m_iload (m_iconst (m_iload (m_callv hi)))))))
theorem mobz_689 : xBm bz_689 := fun dl fs i1 i2 fin hi => (m_istore (m_aload (m_getr (m_getr (m_iload (m_iconst (m_ast (m_iload (m_iret hi)))))))))
theorem mobz_690 : xBm bz_690 := fun dl fs i1 i2 fin hi => (m_aload (m_iload (m_callv hi)))
theorem mobz_691 : xBm bz_691 := fun dl fs i1 i2 fin hi => (m_iret hi)
theorem mobz_692 : xBm bz_692 := fun dl fs i1 i2 fin hi => (m_aload (m_iconst (m_callv hi)))
theorem mobz_693 : xBm bz_693 := fun dl fs i1 i2 fin hi => (m_istore (m_iload (m_iconst (m_if2 (m_xgo hi) (m_iload (m_iconst (m_if2 (m_xgo hi) (m_iload (m_iconst (m_if2 (m_xgo hi) (m_iload (m_iconst (m_if2 (m_xgo hi) (m_iload (m_iconst (m_if2 (m_xgo hi) (m_xgo hi)))))))))))))))))
theorem mobz_694 : xBm bz_694 := fun dl fs i1 i2 fin hi => (m_iconst (m_xgo hi))
theorem mobz_695 : xBm bz_695 := fun dl fs i1 i2 fin hi => (m_iconst (m_zret hi))
theorem mobz_696 : xBm bz_696 := fun dl fs i1 i2 fin hi => (m_zret hi)
theorem mobz_697 : xBm bz_697 := fun dl fs i1 i2 fin hi => (m_aload (m_iconst (m_callv hi)))
theorem mobz_698 : xBm bz_698 := fun dl fs i1 i2 fin hi => (m_istore (m_iload (m_iconst (m_if2 (m_xgo hi) (m_iload (m_iconst (m_if2 (m_xgo hi) (m_iload (m_iconst (m_if2 (m_xgo hi) (m_xgo hi)))))))))))
theorem mobz_699 : xBm bz_699 := fun dl fs i1 i2 fin hi => (m_iconst (m_xgo hi))
theorem mobz_700 : xBm bz_700 := fun dl fs i1 i2 fin hi => (m_iconst (m_zret hi))
theorem mobz_701 : xBm bz_701 := fun dl fs i1 i2 fin hi => (m_zret hi)
theorem mobz_702 : xBm bz_702 := fun dl fs i1 i2 fin hi => (m_aload (m_iconst (m_callv hi)))
theorem mobz_703 : xBm bz_703 := fun dl fs i1 i2 fin hi => (m_istore (m_iload (m_iconst (m_if2 (m_xgo hi) (m_iload (m_iconst (m_if2 (m_xgo hi) (m_iload (m_iconst (m_if2 (m_xgo hi) (m_iload (m_iconst (m_if2 (m_xgo hi) (m_iload (m_iconst (m_if2 (m_xgo hi) (m_iload (m_iconst (m_if2 (m_xgo hi) (m_xgo hi))))))))))))))))))))
theorem mobz_704 : xBm bz_704 := fun dl fs i1 i2 fin hi => (m_iconst (m_xgo hi))
theorem mobz_705 : xBm bz_705 := fun dl fs i1 i2 fin hi => (m_iconst (m_zret hi))
theorem mobz_706 : xBm bz_706 := fun dl fs i1 i2 fin hi => (m_zret hi)
theorem mobz_707 : xBm bz_707 := fun dl fs i1 i2 fin hi => (m_aload (m_iconst (m_callv hi)))
theorem mobz_708 : xBm bz_708 := fun dl fs i1 i2 fin hi => (m_istore (m_iload (m_iconst (m_if2 m_no (m_iload (m_iconst (m_if2 m_no (m_iload (m_iconst (m_if2 m_no (m_iload (m_if1 m_no (m_iload (m_iconst (m_if2 (m_xgo hi) m_no)))))))))))))))
theorem mobz_709 : xBm bz_709 := fun dl fs i1 i2 fin hi => (m_iconst (m_zret hi))
theorem mobz_710 : xBm bz_710 := fun dl fs i1 i2 fin hi => (m_aload (m_iconst (m_callv hi)))
theorem mobz_711 : xBm bz_711 := fun dl fs i1 i2 fin hi => (m_istore (m_iload (m_iconst (m_if2 m_no (m_iload (m_iconst (m_if2 m_no (m_iload (m_iconst (m_if2 m_no (m_iload (m_iconst (m_if2 (m_xgo hi) m_no)))))))))))))
theorem mobz_712 : xBm bz_712 := fun dl fs i1 i2 fin hi => (m_iconst (m_zret hi))
theorem mobz_713 : xBm bz_713 := fun dl fs i1 i2 fin hi => (m_aload (m_getr (m_iconst (m_aload (m_callv hi)))))
theorem mobz_714 : xBm bz_714 := fun dl fs i1 i2 fin hi => (m_aload (m_callv hi))
theorem mobz_715 : xBm bz_715 := fun dl fs i1 i2 fin hi => (m_iconst (m_callv hi))
theorem mobz_716 : xBm bz_716 := fun dl fs i1 i2 fin hi => (m_istore (m_aload (m_iconst (m_callv hi))))
theorem mobz_717 : xBm bz_717 := fun dl fs i1 i2 fin hi => (m_iload (m_iret hi))
theorem mobz_718 : xBm bz_718 := fun dl fs i1 i2 fin hi => (m_aload (m_geti (m_istore (m_aload (m_getr (m_iconst (m_aload (m_callv hi))))))))
theorem mobz_719 : xBm bz_719 := fun dl fs i1 i2 fin hi => (m_aload (m_callv hi))
theorem mobz_720 : xBm bz_720 := fun dl fs i1 i2 fin hi => (m_iconst (m_callv hi))
theorem mobz_721 : xBm bz_721 := fun dl fs i1 i2 fin hi => (m_istore (m_aload (m_iconst (m_callv hi))))
theorem mobz_722 : xBm bz_722 := fun dl fs i1 i2 fin hi => (m_iconst (m_istore (m_iconst (m_istore (m_iload (m_aload (m_getr (m_geti (m_if2 (m_xgo hi) (m_aload (m_callv hi)))))))))))
theorem mobz_723 : xBm bz_723 := fun dl fs i1 i2 fin hi => (m_if1 (m_xgo hi) m_no)
theorem mobz_724 : xBm bz_724 := fun dl fs i1 i2 fin hi => (m_aload (m_getr (m_getr (m_iload (m_iload (m_ast (m_aload (m_getr (m_getr (m_iload (m_aload (m_geti (m_iload (m_bin (m_ast (m_iload (m_iret hi)))))))))))))))))
theorem mobz_725 : xBm bz_725 := fun dl fs i1 i2 fin hi => (m_aload (m_getr (m_iconst (m_iload (m_iload (m_iload (m_callv hi)))))))
theorem mobz_726 : xBm bz_726 := fun dl fs i1 i2 fin hi => (m_istore (m_aload (m_getr (m_getr (m_iload (m_iload (m_ast (m_iload (m_iret hi)))))))))
theorem mobz_727 : xBm bz_727 := fun dl fs i1 i2 fin hi => (m_aload (m_iconst (m_callv hi)))
theorem mobz_728 : xBm bz_728 := fun dl fs i1 i2 fin hi => (m_aload (m_getr (m_iconst (m_aload (m_callv hi)))))
theorem mobz_729 : xBm bz_729 := fun dl fs i1 i2 fin hi => (m_aload (m_callv hi))
theorem mobz_730 : xBm bz_730 := fun dl fs i1 i2 fin hi => (m_iconst (m_callv hi))
theorem mobz_731 : xBm bz_731 := fun dl fs i1 i2 fin hi => (m_istore (m_aload (m_iconst (m_callv hi))))
theorem mobz_732 : xBm bz_732 := fun dl fs i1 i2 fin hi => (m_iconst (m_istore (m_iconst (m_istore (m_iload (m_aload (m_getr (m_geti (m_if2 (m_xgo hi) (m_aload (m_iconst (m_callv hi))))))))))))
theorem mobz_733 : xBm bz_733 := fun dl fs i1 i2 fin hi => (m_iconst (m_if2 (m_xgo hi) m_no))
theorem mobz_734 : xBm bz_734 := fun dl fs i1 i2 fin hi => (m_aload (m_iconst (m_callv hi)))
theorem mobz_735 : xBm bz_735 := fun dl fs i1 i2 fin hi => (m_aload (m_callv hi))
theorem mobz_736 : xBm bz_736 := fun dl fs i1 i2 fin hi => (m_istore (m_aload (m_getr (m_getr (m_iload (m_iload (m_ast (m_iconst (m_istore (m_xgo hi))))))))))
theorem mobz_737 : xBm bz_737 := fun dl fs i1 i2 fin hi => (m_iload (m_aload (m_getr (m_geti (m_if2 (m_xgo hi) (m_aload (m_iconst (m_callv hi))))))))
theorem mobz_738 : xBm bz_738 := fun dl fs i1 i2 fin hi => (m_iconst (m_if2 (m_xgo hi) (m_aload (m_dup (m_geti (m_iconst (m_bin (m_puti (m_aload (m_callv hi))))))))))
theorem mobz_739 : xBm bz_739 := fun dl fs i1 i2 fin hi => (m_istore (m_aload (m_getr (m_getr (m_iload (m_iload (m_ast (m_iload (m_istore (m_iinc (m_xgo hi)))))))))))
theorem mobz_740 : xBm bz_740 := fun dl fs i1 i2 fin hi => (m_iload (m_iret hi))
theorem mobz_741 : xBm bz_741 := fun dl fs i1 i2 fin hi => (m_aload (m_iconst (m_callv hi)))
theorem mobz_742 : xBm bz_742 := fun dl fs i1 i2 fin hi => (m_look (And.intro (And.intro rfl m_no) (And.intro (And.intro rfl m_no) (And.intro (And.intro rfl m_no) (And.intro (And.intro rfl m_no) (And.intro (And.intro rfl (m_xgo hi)) True.intro))))) (m_xgo hi))
theorem mobz_743 : xBm bz_743 := fun dl fs i1 i2 fin hi => (m_aload (m_callv hi))
theorem mobz_744 : xBm bz_744 := fun dl fs i1 i2 fin hi => (m_iret hi)
theorem mobz_745 : xBm bz_745 := fun dl fs i1 i2 fin hi => (m_aload (m_iload (m_callv hi)))
theorem mobz_746 : xBm bz_746 := fun dl fs i1 i2 fin hi => (m_iret hi)
theorem mobz_747 : xBm bz_747 := fun dl fs i1 i2 fin hi => (m_aload (m_getr (m_iconst (m_aload (m_callv hi)))))
theorem mobz_748 : xBm bz_748 := fun dl fs i1 i2 fin hi => (m_iconst (m_iconst (m_callv hi)))
theorem mobz_749 : xBm bz_749 := fun dl fs i1 i2 fin hi => (m_istore (m_aload (m_getr (m_getr (m_iload (m_aload (m_iconst (m_callv hi))))))))
theorem mobz_750 : xBm bz_750 := fun dl fs i1 i2 fin hi => (m_ast (m_aload (m_dup (m_geti (m_iconst (m_bin (m_puti (m_aload (m_iconst (m_callv hi))))))))))
theorem mobz_751 : xBm bz_751 := fun dl fs i1 i2 fin hi => (m_iconst (m_if2 m_no (m_aload (m_callv hi))))
theorem mobz_752 : xBm bz_752 := fun dl fs i1 i2 fin hi => (m_iconst (m_if2 (m_xgo hi) m_no))
theorem mobz_753 : xBm bz_753 := fun dl fs i1 i2 fin hi => (m_aload (m_getr (m_getr (m_iload (m_aload (m_callv hi))))))
theorem mobz_754 : xBm bz_754 := fun dl fs i1 i2 fin hi => (m_ast (m_iconst (m_istore (m_iconst (m_istore (m_iload (m_aload (m_getr (m_geti (m_if2 (m_xgo hi) (m_iload (m_if1 (m_xgo hi) (m_aload (m_iconst (m_callv hi)))))))))))))))
theorem mobz_755 : xBm bz_755 := fun dl fs i1 i2 fin hi => (m_iload (m_aload (m_getr (m_geti (m_if2 (m_xgo hi) (m_iload (m_if1 (m_xgo hi) (m_aload (m_iconst (m_callv hi))))))))))
theorem mobz_756 : xBm bz_756 := fun dl fs i1 i2 fin hi => (m_iconst (m_if2 (m_xgo hi) (m_aload (m_dup (m_geti (m_iconst (m_bin (m_puti (m_aload (m_iconst (m_callv hi)))))))))))
theorem mobz_757 : xBm bz_757 := fun dl fs i1 i2 fin hi => (m_aload (m_dup (m_geti (m_iconst (m_bin (m_puti (m_aload (m_iconst (m_callv hi)))))))))
theorem mobz_758 : xBm bz_758 := fun dl fs i1 i2 fin hi => (m_istore (m_iload (m_if1 (m_xgo hi) (m_aload (m_getr (m_getr (m_iload (m_iload (m_ast (m_xgo hi))))))))))
theorem mobz_759 : xBm bz_759 := fun dl fs i1 i2 fin hi => (m_aload (m_getr (m_getr (m_iload (m_iload (m_ast (m_iload (m_istore (m_iinc (m_xgo hi))))))))))
theorem mobz_760 : xBm bz_760 := fun dl fs i1 i2 fin hi => (m_iload (m_istore (m_iinc (m_xgo hi))))
theorem mobz_761 : xBm bz_761 := fun dl fs i1 i2 fin hi => (m_iload (m_iret hi))
theorem mobz_762 : xBm bz_762 := fun dl fs i1 i2 fin hi => (m_aload (m_getr (m_iconst (m_aload (m_callv hi)))))
theorem mobz_763 : xBm bz_763 := fun dl fs i1 i2 fin hi => (m_iconst (m_iconst (m_callv hi)))
theorem mobz_764 : xBm bz_764 := fun dl fs i1 i2 fin hi => (m_istore (m_aload (m_callv hi)))
theorem mobz_765 : xBm bz_765 := fun dl fs i1 i2 fin hi => (m_iconst (m_istore (m_iconst (m_istore (m_iload (m_aload (m_getr (m_geti (m_if2 (m_xgo hi) (m_iload (m_if1 (m_xgo hi) (m_aload (m_iconst (m_callv hi))))))))))))))
theorem mobz_766 : xBm bz_766 := fun dl fs i1 i2 fin hi => (m_iload (m_aload (m_getr (m_geti (m_if2 (m_xgo hi) (m_iload (m_if1 (m_xgo hi) (m_aload (m_iconst (m_callv hi))))))))))
theorem mobz_767 : xBm bz_767 := fun dl fs i1 i2 fin hi => (m_iconst (m_if2 (m_xgo hi) (m_aload (m_callv hi))))
theorem mobz_768 : xBm bz_768 := fun dl fs i1 i2 fin hi => (m_aload (m_callv hi))
theorem mobz_769 : xBm bz_769 := fun dl fs i1 i2 fin hi => (m_istore (m_iconst (m_istore (m_aload (m_iconst (m_callv hi))))))
theorem mobz_770 : xBm bz_770 := fun dl fs i1 i2 fin hi => (m_iconst (m_if2 (m_xgo hi) m_no))
theorem mobz_771 : xBm bz_771 := fun dl fs i1 i2 fin hi => (m_aload (m_callv hi))
theorem mobz_772 : xBm bz_772 := fun dl fs i1 i2 fin hi => (m_istore (m_iload (m_if1 m_no (m_aload (m_getr (m_getr (m_iload (m_iload (m_ast (m_xgo hi))))))))))
theorem mobz_773 : xBm bz_773 := fun dl fs i1 i2 fin hi => (m_iload (m_istore (m_iinc (m_xgo hi))))
theorem mobz_774 : xBm bz_774 := fun dl fs i1 i2 fin hi => (m_aload (m_dup (m_geti (m_iconst (m_bin (m_puti (m_aload (m_geti (m_istore (m_aload (m_getr (m_getr (m_iload (m_aload (m_iconst (m_callv hi))))))))))))))))
theorem mobz_775 : xBm bz_775 := fun dl fs i1 i2 fin hi => (m_ast (m_aload (m_getr (m_getr (m_iload (m_aload (m_geti (m_iload (m_bin (m_ast (m_aload (m_dup (m_geti (m_iconst (m_bin (m_puti (m_iload (m_iret hi))))))))))))))))))
theorem mobz_776 : xBm bz_776 := fun dl fs i1 i2 fin hi => (m_aload (m_callv hi))
theorem mobz_777 : xBm bz_777 := fun dl fs i1 i2 fin hi => (m_iconst (m_istore (m_iconst (m_istore (m_iconst (m_istore (m_aload (m_iconst (m_callv hi)))))))))
theorem mobz_778 : xBm bz_778 := fun dl fs i1 i2 fin hi => (m_iconst (m_if2 (m_xgo hi) m_no))
theorem mobz_779 : xBm bz_779 := fun dl fs i1 i2 fin hi => (m_aload (m_iconst (m_callv hi)))
theorem mobz_780 : xBm bz_780 := fun dl fs i1 i2 fin hi => (m_iload (m_if1 m_no (m_aload (m_getr (m_iconst (m_iload (m_iconst (m_iconst (m_callv hi)))))))))
theorem mobz_781 : xBm bz_781 := fun dl fs i1 i2 fin hi => (m_iret hi)
theorem mobz_782 : xBm bz_782 := fun dl fs i1 i2 fin hi => (m_aload (m_callv hi))
theorem mobz_783 : xBm bz_783 := fun dl fs i1 i2 fin hi => (m_iconst (m_istore (m_iconst (m_istore (m_aload (m_iconst (m_callv hi)))))))
theorem mobz_784 : xBm bz_784 := fun dl fs i1 i2 fin hi => (m_iconst (m_if2 (m_xgo hi) m_no))
theorem mobz_785 : xBm bz_785 := fun dl fs i1 i2 fin hi => (m_iconst (m_istore (m_iconst (m_istore (m_iload (m_aload (m_getr (m_geti (m_if2 (m_xgo hi) (m_iload (m_if1 (m_xgo hi) m_no)))))))))))
theorem mobz_786 : xBm bz_786 := fun dl fs i1 i2 fin hi => (m_aload (m_iconst (m_callv hi)))
theorem mobz_787 : xBm bz_787 := fun dl fs i1 i2 fin hi => (m_aload (m_iload (m_iconst (m_iconst (m_iconst (m_callv hi))))))
theorem mobz_788 : xBm bz_788 := fun dl fs i1 i2 fin hi => (m_istore (m_iload (m_if1 m_no (m_iload (m_iret hi)))))
theorem mobz_789 : xBm bz_789 := fun dl fs i1 i2 fin hi => (m_aload (m_getr (m_aload (m_geti (m_iload (m_bin (m_callv hi)))))))
theorem mobz_790 : xBm bz_790 := fun dl fs i1 i2 fin hi => (m_iret hi)
theorem mobz_791 : xBm bz_791 := fun dl fs i1 i2 fin hi => (m_iconst (m_istore (m_iconst (m_istore (m_aload (m_iconst (m_callv hi)))))))
theorem mobz_792 : xBm bz_792 := fun dl fs i1 i2 fin hi => (m_iconst (m_if2 (m_xgo hi) m_no))
theorem mobz_793 : xBm bz_793 := fun dl fs i1 i2 fin hi => (m_aload (m_callv hi))
theorem mobz_794 : xBm bz_794 := fun dl fs i1 i2 fin hi => (m_istore (m_iconst (m_istore (m_iconst (m_istore (m_iconst (m_istore (m_iload (m_aload (m_getr (m_geti (m_if2 (m_xgo hi) (m_aload (m_callv hi))))))))))))))
theorem mobz_795 : xBm bz_795 := fun dl fs i1 i2 fin hi => (m_iload (m_aload (m_getr (m_geti (m_if2 (m_xgo hi) (m_aload (m_callv hi)))))))
theorem mobz_796 : xBm bz_796 := fun dl fs i1 i2 fin hi => (m_if1 (m_xgo hi) (m_aload (m_callv hi)))
theorem mobz_797 : xBm bz_797 := fun dl fs i1 i2 fin hi => (m_istore (m_iload (m_if1 (m_xgo hi) (m_iload (m_istore (m_xgo hi))))))
theorem mobz_798 : xBm bz_798 := fun dl fs i1 i2 fin hi => (m_aload (m_getr (m_getr (m_iload (m_iload (m_ast (m_iload (m_istore (m_iinc (m_xgo hi))))))))))
theorem mobz_799 : xBm bz_799 := fun dl fs i1 i2 fin hi => (m_iload (m_istore (m_iinc (m_xgo hi))))
theorem mobz_800 : xBm bz_800 := fun dl fs i1 i2 fin hi => (m_iload (m_if1 (m_xgo hi) m_no))
theorem mobz_801 : xBm bz_801 := fun dl fs i1 i2 fin hi => (m_iload (m_if1 (m_xgo hi) (m_iload (m_xgo hi))))
theorem mobz_802 : xBm bz_802 := fun dl fs i1 i2 fin hi => (m_aload (m_iload (m_iload (m_iload (m_callv hi)))))
theorem mobz_803 : xBm bz_803 := fun dl fs i1 i2 fin hi => (m_iret hi)
theorem mobz_804 : xBm bz_804 := fun dl fs i1 i2 fin hi => (m_aload (m_callv hi))
theorem mobz_805 : xBm bz_805 := fun dl fs i1 i2 fin hi => (m_istore (m_aload (m_iconst (m_callv hi))))
theorem mobz_806 : xBm bz_806 := fun dl fs i1 i2 fin hi => (m_iconst (m_if2 (m_xgo hi) (m_aload (m_dup (m_geti (m_iconst (m_bin (m_puti (m_aload (m_callv hi))))))))))
theorem mobz_807 : xBm bz_807 := fun dl fs i1 i2 fin hi => (m_istore (m_aload (m_iconst (m_callv hi))))
theorem mobz_808 : xBm bz_808 := fun dl fs i1 i2 fin hi => (m_aload (m_iconst (m_callv hi)))
theorem mobz_809 : xBm bz_809 := fun dl fs i1 i2 fin hi => (m_aload (m_getr (m_iload (m_iload (m_iload (m_iconst (m_callv hi)))))))
theorem mobz_810 : xBm bz_810 := fun dl fs i1 i2 fin hi => (m_iret hi)
theorem mobz_811 : xBm bz_811 := fun dl fs i1 i2 fin hi => (m_aload (m_iconst (m_callv hi)))
theorem mobz_812 : xBm bz_812 := fun dl fs i1 i2 fin hi => (m_iconst (m_if2 (m_xgo hi) (m_iconst (m_xgo hi))))
theorem mobz_813 : xBm bz_813 := fun dl fs i1 i2 fin hi => (m_iconst (m_istore (m_iload (m_if1 (m_xgo hi) (m_aload (m_iconst (m_callv hi)))))))
theorem mobz_814 : xBm bz_814 := fun dl fs i1 i2 fin hi => (m_istore (m_iload (m_if1 (m_xgo hi) (m_aload (m_iconst (m_callv hi))))))
theorem mobz_815 : xBm bz_815 := fun dl fs i1 i2 fin hi => (m_iconst (m_if2 (m_xgo hi) m_no))
theorem mobz_816 : xBm bz_816 := fun dl fs i1 i2 fin hi => (m_aload (m_callv hi))
theorem mobz_817 : xBm bz_817 := fun dl fs i1 i2 fin hi => (m_istore (m_aload (m_dup (m_geti (m_iconst (m_bin (m_puti (m_iload (m_if1 (m_xgo hi) (m_iload (m_iconst (m_if2 (m_xgo hi) (m_aload (m_getr (m_iconst (m_iload (m_iload (m_iconst (m_callv hi)))))))))))))))))))
theorem mobz_818 : xBm bz_818 := fun dl fs i1 i2 fin hi => (m_iret hi)
theorem mobz_819 : xBm bz_819 := fun dl fs i1 i2 fin hi => (m_aload (m_getr (m_iload (m_iload (m_iload (m_iconst (m_callv hi)))))))
theorem mobz_820 : xBm bz_820 := fun dl fs i1 i2 fin hi => (m_iret hi)
theorem mobz_821 : xBm bz_821 := fun dl fs i1 i2 fin hi => (m_aload (m_iconst (m_callv hi)))
theorem mobz_822 : xBm bz_822 := fun dl fs i1 i2 fin hi => (m_iconst (m_if2 (m_xgo hi) (m_aload (m_callv hi))))
theorem mobz_823 : xBm bz_823 := fun dl fs i1 i2 fin hi => (m_iret hi)
theorem mobz_824 : xBm bz_824 := fun dl fs i1 i2 fin hi => (m_aload (m_callv hi))
theorem mobz_825 : xBm bz_825 := fun dl fs i1 i2 fin hi => (m_istore (m_aload (m_callv hi)))
theorem mobz_826 : xBm bz_826 := fun dl fs i1 i2 fin hi => (m_istore (m_aload (m_dup (m_geti (m_iconst (m_bin (m_puti (m_iconst (m_istore (m_iconst (m_istore (m_iconst (m_istore (m_iload (m_aload (m_getr (m_geti (m_if2 (m_xgo hi) (m_aload (m_callv hi))))))))))))))))))))
theorem mobz_827 : xBm bz_827 := fun dl fs i1 i2 fin hi => (m_if1 (m_xgo hi) m_no)
theorem mobz_828 : xBm bz_828 := fun dl fs i1 i2 fin hi => (m_aload (m_getr (m_iconst (m_iload (m_iload (m_iload (m_callv hi)))))))
theorem mobz_829 : xBm bz_829 := fun dl fs i1 i2 fin hi => (m_istore (m_aload (m_getr (m_getr (m_iload (m_iload (m_ast (m_iload (m_iret hi)))))))))
theorem mobz_830 : xBm bz_830 := fun dl fs i1 i2 fin hi => (m_iconst (m_istore (m_iconst (m_istore (m_iconst (m_istore (m_iload (m_aload (m_getr (m_geti (m_if2 m_no (m_aload (m_iconst (m_callv hi))))))))))))))
theorem mobz_831 : xBm bz_831 := fun dl fs i1 i2 fin hi => (m_iload (m_aload (m_getr (m_geti (m_if2 m_no (m_aload (m_iconst (m_callv hi))))))))
theorem mobz_832 : xBm bz_832 := fun dl fs i1 i2 fin hi => (m_iconst (m_if2 (m_xgo hi) m_no))
theorem mobz_833 : xBm bz_833 := fun dl fs i1 i2 fin hi => (m_aload (m_callv hi))
theorem mobz_834 : xBm bz_834 := fun dl fs i1 i2 fin hi => (m_istore (m_aload (m_iconst (m_callv hi))))
theorem mobz_835 : xBm bz_835 := fun dl fs i1 i2 fin hi => (m_iconst (m_if2 (m_xgo hi) (m_iconst (m_xgo hi))))
theorem mobz_836 : xBm bz_836 := fun dl fs i1 i2 fin hi => (m_iconst (m_istore (m_iload (m_if1 (m_xgo hi) (m_aload (m_aload (m_callv hi)))))))
theorem mobz_837 : xBm bz_837 := fun dl fs i1 i2 fin hi => (m_istore (m_iload (m_if1 (m_xgo hi) (m_aload (m_aload (m_callv hi))))))
theorem mobz_838 : xBm bz_838 := fun dl fs i1 i2 fin hi => (m_iconst (m_iload (m_iconst (m_callv hi))))
theorem mobz_839 : xBm bz_839 := fun dl fs i1 i2 fin hi => (m_xgo hi)
theorem mobz_840 : xBm bz_840 := fun dl fs i1 i2 fin hi => (m_iload (m_istore (m_iload (m_if1 (m_xgo hi) (m_iload (m_istore (m_xgo hi)))))))
theorem mobz_841 : xBm bz_841 := fun dl fs i1 i2 fin hi => (m_istore (m_iload (m_if1 (m_xgo hi) (m_iload (m_istore (m_xgo hi))))))
theorem mobz_842 : xBm bz_842 := fun dl fs i1 i2 fin hi => (m_aload (m_getr (m_getr (m_iload (m_iload (m_ast (m_iload (m_istore (m_iload (m_if1 (m_xgo hi) (m_iload (m_iret hi))))))))))))
theorem mobz_843 : xBm bz_843 := fun dl fs i1 i2 fin hi => (m_iload (m_istore (m_iload (m_if1 (m_xgo hi) (m_iload (m_iret hi))))))
theorem mobz_844 : xBm bz_844 := fun dl fs i1 i2 fin hi => (m_aload (m_dup (m_geti (m_iconst (m_bin (m_puti (m_iinc (m_xgo hi))))))))
theorem mobz_845 : xBm bz_845 := fun dl fs i1 i2 fin hi => (m_aload (m_getr (m_aload (m_geti (m_callv hi)))))
theorem mobz_846 : xBm bz_846 := fun dl fs i1 i2 fin hi => (m_iret hi)
theorem mobz_847 : xBm bz_847 := fun dl fs i1 i2 fin hi => (m_aload (m_callv hi))
theorem mobz_848 : xBm bz_848 := fun dl fs i1 i2 fin hi => (m_istore (m_aload (m_callv hi)))
theorem mobz_849 : xBm bz_849 := fun dl fs i1 i2 fin hi => (m_istore (m_aload (m_iconst (m_callv hi))))
theorem mobz_850 : xBm bz_850 := fun dl fs i1 i2 fin hi => (m_tablen (And.intro (m_xgo hi) (And.intro (m_xgo hi) (And.intro (m_xgo hi) (And.intro m_no (And.intro m_no (And.intro (m_xgo hi) (And.intro m_no (And.intro (m_xgo hi) True.intro)))))))) m_no)
theorem mobz_851 : xBm bz_851 := fun dl fs i1 i2 fin hi => (m_aload (m_dup (m_geti (m_iconst (m_bin (m_puti (m_aload (m_getr (m_iconst (m_iload (m_iload (m_iconst (m_callv hi)))))))))))))
theorem mobz_852 : xBm bz_852 := fun dl fs i1 i2 fin hi => (m_iret hi)
theorem mobz_853 : xBm bz_853 := fun dl fs i1 i2 fin hi => (m_aload (m_dup (m_geti (m_iconst (m_bin (m_puti (m_aload (m_getr (m_iconst (m_iload (m_iconst (m_iconst (m_callv hi)))))))))))))
theorem mobz_854 : xBm bz_854 := fun dl fs i1 i2 fin hi => (m_iret hi)
theorem mobz_855 : xBm bz_855 := fun dl fs i1 i2 fin hi => (m_aload (m_dup (m_geti (m_iconst (m_bin (m_puti (m_aload (m_getr (m_iconst (m_iload (m_iload (m_iconst (m_callv hi)))))))))))))
theorem mobz_856 : xBm bz_856 := fun dl fs i1 i2 fin hi => (m_iret hi)
theorem mobz_857 : xBm bz_857 := fun dl fs i1 i2 fin hi => (m_aload (m_iload (m_callv hi)))
theorem mobz_858 : xBm bz_858 := fun dl fs i1 i2 fin hi => (m_iret hi)
theorem mobz_859 : xBm bz_859 := fun dl fs i1 i2 fin hi => (m_aload (m_iload (m_callv hi)))
theorem mobz_860 : xBm bz_860 := fun dl fs i1 i2 fin hi => (m_iret hi)
theorem mobz_861 : xBm bz_861 := fun dl fs i1 i2 fin hi => (m_aload (m_callv hi))
theorem mobz_862 : xBm bz_862 := fun dl fs i1 i2 fin hi => (m_iconst (m_istore (m_iconst (m_istore (m_iconst (m_istore (m_iload (m_aload (m_getr (m_geti (m_if2 (m_xgo hi) (m_aload (m_getr (m_geti (m_iconst (m_if2 (m_xgo hi) (m_aload (m_geti (m_aload (m_getr (m_geti (m_if2 (m_xgo hi) (m_xgo hi)))))))))))))))))))))))
theorem mobz_863 : xBm bz_863 := fun dl fs i1 i2 fin hi => (m_iload (m_aload (m_getr (m_geti (m_if2 (m_xgo hi) (m_aload (m_getr (m_geti (m_iconst (m_if2 (m_xgo hi) (m_aload (m_geti (m_aload (m_getr (m_geti (m_if2 (m_xgo hi) (m_iconst (m_istore (m_aload (m_iconst (m_callv hi)))))))))))))))))))))
theorem mobz_864 : xBm bz_864 := fun dl fs i1 i2 fin hi => (m_istore (m_aload (m_iconst (m_callv hi))))
theorem mobz_865 : xBm bz_865 := fun dl fs i1 i2 fin hi => (m_istore (m_iload (m_iconst (m_if2 (m_xgo hi) (m_aload (m_callv hi))))))
theorem mobz_866 : xBm bz_866 := fun dl fs i1 i2 fin hi => (m_istore (m_xgo hi))
theorem mobz_867 : xBm bz_867 := fun dl fs i1 i2 fin hi => (m_iload (m_iconst (m_if2 (m_xgo hi) (m_iload (m_iconst (m_if2 (m_xgo hi) (m_iload (m_iconst (m_if2 (m_xgo hi) (m_xgo hi))))))))))
theorem mobz_868 : xBm bz_868 := fun dl fs i1 i2 fin hi => (m_aload (m_callv hi))
theorem mobz_869 : xBm bz_869 := fun dl fs i1 i2 fin hi => (m_istore (m_xgo hi))
theorem mobz_870 : xBm bz_870 := fun dl fs i1 i2 fin hi => (m_iload (m_iconst (m_if2 (m_xgo hi) (m_iload (m_iconst (m_if2 (m_xgo hi) (m_iload (m_iconst (m_if2 (m_xgo hi) (m_iload (m_iconst (m_if2 (m_xgo hi) (m_xgo hi)))))))))))))
theorem mobz_871 : xBm bz_871 := fun dl fs i1 i2 fin hi => (m_iload (m_iconst (m_if2 (m_xgo hi) (m_iload (m_iconst (m_if2 (m_xgo hi) (m_aload (m_callv hi))))))))
theorem mobz_872 : xBm bz_872 := fun dl fs i1 i2 fin hi => (m_aload (m_callv hi))
theorem mobz_873 : xBm bz_873 := fun dl fs i1 i2 fin hi => (m_istore (m_xgo hi))
theorem mobz_874 : xBm bz_874 := fun dl fs i1 i2 fin hi => (m_aload (m_iload (m_iconst (m_if2 (m_xgo hi) (m_iload (m_iconst (m_if2 (m_xgo hi) (m_iload (m_iconst (m_if2 (m_xgo hi) (m_iload (m_iconst (m_if2 (m_xgo hi) (m_xgo hi))))))))))))))
theorem mobz_875 : xBm bz_875 := fun dl fs i1 i2 fin hi => (m_iconst (m_xgo hi))
theorem mobz_876 : xBm bz_876 := fun dl fs i1 i2 fin hi => (m_iconst (m_callv hi))
theorem mobz_877 : xBm bz_877 := fun dl fs i1 i2 fin hi => (m_callv hi)
theorem mobz_878 : xBm bz_878 := fun dl fs i1 i2 fin hi => (m_istore (m_aload (m_iconst (m_callv hi))))
theorem mobz_879 : xBm bz_879 := fun dl fs i1 i2 fin hi => (m_aload (m_iconst (m_callv hi)))
theorem mobz_880 : xBm bz_880 := fun dl fs i1 i2 fin hi => (m_iload (m_if1 (m_xgo hi) (m_iload (m_istore (m_xgo hi)))))
theorem mobz_881 : xBm bz_881 := fun dl fs i1 i2 fin hi => (m_aload (m_getr (m_getr (m_iload (m_iload (m_ast (m_iload (m_istore (m_iinc (m_xgo hi))))))))))
theorem mobz_882 : xBm bz_882 := fun dl fs i1 i2 fin hi => (m_iload (m_istore (m_iinc (m_xgo hi))))
theorem mobz_883 : xBm bz_883 := fun dl fs i1 i2 fin hi => (m_iload (m_iret hi))
theorem mobz_884 : xBm bz_884 := fun dl fs i1 i2 fin hi => (m_aload (m_geti (m_istore (m_aload (m_iconst (m_callv hi))))))
theorem mobz_885 : xBm bz_885 := fun dl fs i1 i2 fin hi => (m_iconst (m_if2 (m_xgo hi) m_no))
theorem mobz_886 : xBm bz_886 := fun dl fs i1 i2 fin hi => (m_iconst (m_istore (m_iconst (m_istore (m_iconst (m_istore (m_iload (m_iconst (m_if2 (m_xgo hi) (m_aload (m_iconst (m_callv hi))))))))))))
theorem mobz_887 : xBm bz_887 := fun dl fs i1 i2 fin hi => (m_aload (m_iconst (m_callv hi)))
theorem mobz_888 : xBm bz_888 := fun dl fs i1 i2 fin hi => (m_istore (m_iconst (m_istore (m_iload (m_aload (m_getr (m_geti (m_if2 (m_xgo hi) (m_iload (m_iconst (m_if2 (m_xgo hi) m_no)))))))))))
theorem mobz_889 : xBm bz_889 := fun dl fs i1 i2 fin hi => (m_iconst (m_istore (m_aload (m_iconst (m_callv hi)))))
theorem mobz_890 : xBm bz_890 := fun dl fs i1 i2 fin hi => (m_iconst (m_if2 (m_xgo hi) m_no))
theorem mobz_891 : xBm bz_891 := fun dl fs i1 i2 fin hi => (m_aload (m_getr (m_iload (m_aload (m_getr (m_iload (m_callv hi)))))))
theorem mobz_892 : xBm bz_892 := fun dl fs i1 i2 fin hi => (m_iload (m_iload (m_callv hi)))
theorem mobz_893 : xBm bz_893 := fun dl fs i1 i2 fin hi => (m_istore (m_aload (m_getr (m_getr (m_iload (m_aload (m_geti (m_iload (m_bin (m_ast (m_aload (m_getr (m_getr (m_iload (m_aload (m_geti (m_iload (m_bin (m_ast (m_iload (m_iret hi)))))))))))))))))))))
theorem mobz_894 : xBm bz_894 := fun dl fs i1 i2 fin hi => (m_aload (m_iconst (m_callv hi)))
theorem mobz_895 : xBm bz_895 := fun dl fs i1 i2 fin hi => (m_iconst (m_if2 (m_xgo hi) m_no))
theorem mobz_896 : xBm bz_896 := fun dl fs i1 i2 fin hi => (m_aload (m_iconst (m_callv hi)))
theorem mobz_897 : xBm bz_897 := fun dl fs i1 i2 fin hi => (m_istore (m_aload (m_geti (m_if1 (m_xgo hi) m_no))))
theorem mobz_898 : xBm bz_898 := fun dl fs i1 i2 fin hi => (m_iload (m_istore (m_iconst (m_istore (m_iload (m_iconst (m_if2 (m_xgo hi) (m_aload (m_iconst (m_callv hi))))))))))
theorem mobz_899 : xBm bz_899 := fun dl fs i1 i2 fin hi => (m_iconst (m_if2 (m_xgo hi) m_no))
theorem mobz_900 : xBm bz_900 := fun dl fs i1 i2 fin hi => (m_iload (m_iconst (m_if2 m_no (m_iload (m_iret hi)))))
theorem mobz_901 : xBm bz_901 := fun dl fs i1 i2 fin hi => (m_aload (m_callv hi))
theorem mobz_902 : xBm bz_902 := fun dl fs i1 i2 fin hi => (m_iconst (m_istore (m_iconst (m_istore (m_iconst (m_istore (m_aload (m_iconst (m_callv hi)))))))))
theorem mobz_903 : xBm bz_903 := fun dl fs i1 i2 fin hi => (m_iconst (m_if2 (m_xgo hi) (m_aload (m_callv hi))))
theorem mobz_904 : xBm bz_904 := fun dl fs i1 i2 fin hi => (m_istore (m_iload (m_istore (m_iconst (m_istore (m_iload (m_iconst (m_if2 (m_xgo hi) (m_aload (m_iconst (m_callv hi)))))))))))
theorem mobz_905 : xBm bz_905 := fun dl fs i1 i2 fin hi => (m_iconst (m_if2 (m_xgo hi) m_no))
theorem mobz_906 : xBm bz_906 := fun dl fs i1 i2 fin hi => (m_aload (m_iconst (m_callv hi)))
theorem mobz_907 : xBm bz_907 := fun dl fs i1 i2 fin hi => (m_iload (m_iconst (m_if2 m_no (m_iload (m_iret hi)))))
theorem mobz_908 : xBm bz_908 := fun dl fs i1 i2 fin hi => (m_aload (m_callv hi))
theorem mobz_909 : xBm bz_909 := fun dl fs i1 i2 fin hi => (m_iconst (m_istore (m_iconst (m_istore (m_iconst (m_istore (m_aload (m_iconst (m_callv hi)))))))))
theorem mobz_910 : xBm bz_910 := fun dl fs i1 i2 fin hi => (m_iconst (m_if2 (m_xgo hi) (m_aload (m_callv hi))))
theorem mobz_911 : xBm bz_911 := fun dl fs i1 i2 fin hi => (m_istore (m_iload (m_istore (m_iconst (m_istore (m_iload (m_iconst (m_if2 (m_xgo hi) (m_aload (m_iconst (m_callv hi)))))))))))
theorem mobz_912 : xBm bz_912 := fun dl fs i1 i2 fin hi => (m_iconst (m_if2 (m_xgo hi) m_no))
theorem mobz_913 : xBm bz_913 := fun dl fs i1 i2 fin hi => (m_aload (m_iconst (m_callv hi)))
theorem mobz_914 : xBm bz_914 := fun dl fs i1 i2 fin hi => (m_iload (m_iconst (m_if2 m_no (m_iload (m_iret hi)))))
theorem mobz_915 : xBm bz_915 := fun dl fs i1 i2 fin hi => (m_aload (m_callv hi))
theorem mobz_916 : xBm bz_916 := fun dl fs i1 i2 fin hi => (m_istore (m_iload (m_istore (m_iconst (m_istore (m_aload (m_callv hi)))))))
theorem mobz_917 : xBm bz_917 := fun dl fs i1 i2 fin hi => (m_aload (m_callv hi))
theorem mobz_918 : xBm bz_918 := fun dl fs i1 i2 fin hi => (m_if1 (m_xgo hi) (m_iload (m_iconst (m_if2 (m_xgo hi) m_no))))
theorem mobz_919 : xBm bz_919 := fun dl fs i1 i2 fin hi => (m_aload (m_iconst (m_callv hi)))
theorem mobz_920 : xBm bz_920 := fun dl fs i1 i2 fin hi => (m_istore (m_iload (m_if1 (m_xgo hi) m_no)))
theorem mobz_921 : xBm bz_921 := fun dl fs i1 i2 fin hi => (m_aload (m_callv hi))
theorem mobz_922 : xBm bz_922 := fun dl fs i1 i2 fin hi => (m_istore (m_iload (m_if1 (m_xgo hi) m_no)))
theorem mobz_923 : xBm bz_923 := fun dl fs i1 i2 fin hi => (m_aload (m_callv hi))
theorem mobz_924 : xBm bz_924 := fun dl fs i1 i2 fin hi => (m_istore (m_aload (m_getr (m_getr (m_iload (m_iload (m_ast (m_aload (m_getr (m_getr (m_iload (m_iload (m_ast (m_iload (m_istore (m_iload (m_if1 (m_xgo hi) m_no)))))))))))))))))
theorem mobz_925 : xBm bz_925 := fun dl fs i1 i2 fin hi => (m_iinc (m_xgo hi))
theorem mobz_926 : xBm bz_926 := fun dl fs i1 i2 fin hi => (m_iload (m_iload (m_if2 (m_xgo hi) (m_iload (m_xgo hi)))))
theorem mobz_927 : xBm bz_927 := fun dl fs i1 i2 fin hi => (m_aload (m_getr (m_iconst (m_aload (m_getr (m_getr (m_iload (m_ald (m_iload (m_iconst (m_callv hi)))))))))))
theorem mobz_928 : xBm bz_928 := fun dl fs i1 i2 fin hi => (m_iret hi)
theorem mobz_929 : xBm bz_929 := fun dl fs i1 i2 fin hi => (m_aload (m_geti (m_istore (m_aload (m_getr (m_iconst (m_aload (m_callv hi))))))))
theorem mobz_930 : xBm bz_930 := fun dl fs i1 i2 fin hi => (m_aload (m_callv hi))
theorem mobz_931 : xBm bz_931 := fun dl fs i1 i2 fin hi => (m_iconst (m_callv hi))
theorem mobz_932 : xBm bz_932 := fun dl fs i1 i2 fin hi => (m_istore (m_iload (m_if1 (m_xgo hi) (m_aload (m_callv hi)))))
theorem mobz_933 : xBm bz_933 := fun dl fs i1 i2 fin hi => (m_istore (m_aload (m_iconst (m_callv hi))))
theorem mobz_934 : xBm bz_934 := fun dl fs i1 i2 fin hi => (m_iconst (m_if2 (m_xgo hi) m_no))
theorem mobz_935 : xBm bz_935 := fun dl fs i1 i2 fin hi => (m_aload (m_iconst (m_callv hi)))
theorem mobz_936 : xBm bz_936 := fun dl fs i1 i2 fin hi => (m_istore (m_aload (m_getr (m_getr (m_iload (m_aload (m_getr (m_getr (m_iload (m_ald (m_ast (m_aload (m_getr (m_getr (m_iload (m_aload (m_getr (m_getr (m_iload (m_ald (m_ast (m_aload (m_xgo hi)))))))))))))))))))))))
theorem mobz_937 : xBm bz_937 := fun dl fs i1 i2 fin hi => (m_ast (m_xgo hi))
theorem mobz_938 : xBm bz_938 := fun dl fs i1 i2 fin hi => (m_aload (m_dup (m_geti (m_iconst (m_bin (m_puti (m_iconst (m_istore (m_iconst (m_istore (m_xgo hi)))))))))))
theorem mobz_939 : xBm bz_939 := fun dl fs i1 i2 fin hi => (m_iload (m_aload (m_getr (m_geti (m_if2 (m_xgo hi) (m_aload (m_callv hi)))))))
theorem mobz_940 : xBm bz_940 := fun dl fs i1 i2 fin hi => (m_if1 (m_xgo hi) (m_aload (m_callv hi)))
theorem mobz_941 : xBm bz_941 := fun dl fs i1 i2 fin hi => (m_istore (m_iload (m_if1 (m_xgo hi) (m_aload (m_getr (m_getr (m_iload (m_iload (m_ast (m_xgo hi))))))))))
theorem mobz_942 : xBm bz_942 := fun dl fs i1 i2 fin hi => (m_aload (m_getr (m_getr (m_iload (m_iload (m_ast (m_iload (m_istore (m_iinc (m_xgo hi))))))))))
theorem mobz_943 : xBm bz_943 := fun dl fs i1 i2 fin hi => (m_iload (m_istore (m_iinc (m_xgo hi))))
theorem mobz_944 : xBm bz_944 := fun dl fs i1 i2 fin hi => (m_aload (m_getr (m_getr (m_iload (m_aload (m_getr (m_geti (m_ast (m_aload (m_getr (m_getr (m_iload (m_aload (m_iload (m_callv hi)))))))))))))))
theorem mobz_945 : xBm bz_945 := fun dl fs i1 i2 fin hi => (m_ast (m_iload (m_iret hi)))
theorem mobz_946 : xBm bz_946 := fun dl fs i1 i2 fin hi => (m_aload (m_iconst (m_callv hi)))
theorem mobz_947 : xBm bz_947 := fun dl fs i1 i2 fin hi => (m_iconst (m_if2 (m_xgo hi) (m_iconst (m_xgo hi))))
theorem mobz_948 : xBm bz_948 := fun dl fs i1 i2 fin hi => (m_iconst (m_istore (m_iload (m_if1 (m_xgo hi) (m_aload (m_dup (m_geti (m_iconst (m_bin (m_puti (m_xgo hi)))))))))))
theorem mobz_949 : xBm bz_949 := fun dl fs i1 i2 fin hi => (m_istore (m_iload (m_if1 (m_xgo hi) (m_aload (m_dup (m_geti (m_iconst (m_bin (m_puti (m_xgo hi))))))))))
theorem mobz_950 : xBm bz_950 := fun dl fs i1 i2 fin hi => (m_aload (m_getr (m_iconst (m_aload (m_callv hi)))))
theorem mobz_951 : xBm bz_951 := fun dl fs i1 i2 fin hi => (m_aload (m_callv hi))
theorem mobz_952 : xBm bz_952 := fun dl fs i1 i2 fin hi => (m_iconst (m_callv hi))
theorem mobz_953 : xBm bz_953 := fun dl fs i1 i2 fin hi => (m_istore (m_aload (m_dup (m_geti (m_iconst (m_bin (m_puti (m_iload (m_if1 (m_xgo hi) (m_aload (m_iconst (m_callv hi))))))))))))
theorem mobz_954 : xBm bz_954 := fun dl fs i1 i2 fin hi => (m_aload (m_iconst (m_callv hi)))
theorem mobz_955 : xBm bz_955 := fun dl fs i1 i2 fin hi => (m_aload (m_geti (m_istore (m_aload (m_getr (m_getr (m_iload (m_aload (m_callv hi)))))))))
theorem mobz_956 : xBm bz_956 := fun dl fs i1 i2 fin hi => (m_ast (m_aload (m_getr (m_getr (m_iload (m_aload (m_geti (m_ast (m_aload (m_getr (m_getr (m_iload (m_aload (m_geti (m_iload (m_bin (m_ast (m_iload (m_iret hi)))))))))))))))))))
theorem mobz_957 : xBm bz_957 := fun dl fs i1 i2 fin hi => (m_aload (m_iconst (m_puti (m_aload (m_iconst (m_puti (m_aload (m_iconst (m_putz (m_aload (m_aload (m_getr (m_geti (m_puti (m_aload (m_iconst (m_puti (m_aload (m_iconst (m_puti (m_ret hi)))))))))))))))))))))
theorem mobz_958 : xBm bz_958 := fun dl fs i1 i2 fin hi => (m_aload (m_iconst (m_callv hi)))
theorem mobz_959 : xBm bz_959 := fun dl fs i1 i2 fin hi => (m_iload (m_if2 (m_xgo hi) m_no))
theorem mobz_960 : xBm bz_960 := fun dl fs i1 i2 fin hi => (m_aload (m_dup (m_geti (m_iconst (m_bin (m_puti (m_ret hi)))))))
theorem mobz_961 : xBm bz_961 := fun dl fs i1 i2 fin hi => (m_aload (m_iconst (m_callv hi)))
theorem mobz_962 : xBm bz_962 := fun dl fs i1 i2 fin hi => (m_iload (m_if2 (m_xgo hi) m_no))
theorem mobz_963 : xBm bz_963 := fun dl fs i1 i2 fin hi => (m_aload (m_dup (m_geti (m_iconst (m_bin (m_puti (m_aload (m_dup (m_geti (m_iconst (m_bin (m_puti (m_ret hi)))))))))))))
theorem mobz_964 : xBm bz_964 := fun dl fs i1 i2 fin hi => (m_aload (m_geti (m_iconst (m_if2 (m_xgo hi) m_no))))
theorem mobz_965 : xBm bz_965 := fun dl fs i1 i2 fin hi => (m_aload (m_dup (m_geti (m_iconst (m_bin (m_puti (m_aload (m_dup (m_geti (m_iconst (m_bin (m_puti (m_ret hi)))))))))))))
theorem mobz_966 : xBm bz_966 := fun dl fs i1 i2 fin hi => (m_aload (m_callv hi))
theorem mobz_967 : xBm bz_967 := fun dl fs i1 i2 fin hi => (m_istore (m_iconst (m_istore (m_iconst (m_istore (m_iload (m_aload (m_getr (m_geti (m_if2 (m_xgo hi) (m_aload (m_iconst (m_callv hi)))))))))))))
theorem mobz_968 : xBm bz_968 := fun dl fs i1 i2 fin hi => (m_iload (m_aload (m_getr (m_geti (m_if2 (m_xgo hi) (m_aload (m_iconst (m_callv hi))))))))
theorem mobz_969 : xBm bz_969 := fun dl fs i1 i2 fin hi => (m_iconst (m_if2 (m_xgo hi) (m_aload (m_dup (m_geti (m_iconst (m_bin (m_puti (m_aload (m_getr (m_getr (m_iload (m_iload (m_ast (m_iload (m_istore (m_aload (m_callv hi))))))))))))))))))
theorem mobz_970 : xBm bz_970 := fun dl fs i1 i2 fin hi => (m_istore (m_iinc (m_xgo hi)))
theorem mobz_971 : xBm bz_971 := fun dl fs i1 i2 fin hi => (m_aload (m_iload (m_puti (m_iconst (m_istore (m_iload (m_iload (m_if2 (m_xgo hi) (m_iload (m_if1 (m_xgo hi) (m_iload (m_istore (m_aload (m_getr (m_getr (m_iload (m_ald (m_istore (m_aload (m_getr (m_getr (m_iload (m_xgo hi)))))))))))))))))))))))
theorem mobz_972 : xBm bz_972 := fun dl fs i1 i2 fin hi => (m_iload (m_iload (m_if2 (m_xgo hi) (m_iload (m_if1 (m_xgo hi) (m_iload (m_istore (m_aload (m_getr (m_getr (m_iload (m_ald (m_istore (m_aload (m_getr (m_getr (m_iload (m_iload (m_ast (m_aload (m_getr (m_iconst (m_xgo hi)))))))))))))))))))))))
theorem mobz_973 : xBm bz_973 := fun dl fs i1 i2 fin hi => (m_istore (m_aload (m_getr (m_getr (m_iload (m_iconst (m_ast (m_iinc (m_xgo hi)))))))))
theorem mobz_974 : xBm bz_974 := fun dl fs i1 i2 fin hi => (m_iload (m_iret hi))
theorem mobz_975 : xBm bz_975 := fun dl fs i1 i2 fin hi => (m_aload (m_getr (m_aload (m_geti (m_callv hi)))))
theorem mobz_976 : xBm bz_976 := fun dl fs i1 i2 fin hi => (m_iret hi)
theorem mobz_977 : xBm bz_977 := fun dl fs i1 i2 fin hi => (m_aload (m_obj (m_aload (m_iconst (m_newa (m_putr (m_aload (m_iconst (m_newa (m_putr (m_aload (m_iconst (m_newa (m_putr (m_aload (m_iconst (m_newa (m_putr (m_aload (m_iconst (m_newa (m_putr (m_xgo hi)))))))))))))))))))))))
theorem mobz_978 : xBm bz_978 := fun dl fs i1 i2 fin hi => (m_aload (m_obj (m_aload (m_iconst (m_newa (m_putr (m_aload (m_iconst (m_newa (m_putr (m_aload (m_iconst (m_newa (m_putr (m_aload (m_iconst (m_newa (m_putr (m_aload (m_iconst (m_newa (m_putr (m_xgo hi)))))))))))))))))))))))
theorem mobz_979 : xBm bz_979 := fun dl fs i1 i2 fin hi => (m_aload (m_obj (m_aload (m_iconst (m_newa (m_putr (m_aload (m_iconst (m_newa (m_putr (m_aload (m_iconst (m_newa (m_putr (m_aload (m_iconst (m_iconst (m_multi (m_putr (m_aload (m_iconst (m_newa (m_xgo hi)))))))))))))))))))))))
theorem mobz_980 : xBm bz_980 := fun dl fs i1 i2 fin hi => (m_putr (m_ret hi))
theorem mobz_981 : xBm bz_981 := fun dl fs i1 i2 fin hi => (m_aload (m_iconst (m_putz (m_aload (m_iconst (m_putz (m_aload (m_getr (m_iconst (m_calls hi))))))))))
theorem mobz_982 : xBm bz_982 := fun dl fs i1 i2 fin hi => (m_ret hi)
theorem mobz_983 : xBm bz_983 := fun dl fs i1 i2 fin hi => (m_aload (m_getr (m_iload (m_ald (m_iret hi)))))
theorem mobz_984 : xBm bz_984 := fun dl fs i1 i2 fin hi => (m_aload (m_obj (m_aload (m_iconst (m_newa (m_putr (m_aload (m_aload (m_putr (m_aload (m_aload (m_putr (m_aload (m_aload (m_putr (m_aload (m_aload (m_putr (m_ret hi)))))))))))))))))))
theorem mobz_985 : xBm bz_985 := fun dl fs i1 i2 fin hi => (m_aload (m_obj (m_aload (m_iconst (m_newa (m_putr (m_aload (m_iconst (m_newa (m_putr (m_aload (m_iconst (m_newa (m_putr (m_aload (m_iconst (m_newa (m_putr (m_aload (m_iconst (m_newa (m_putr (m_xgo hi)))))))))))))))))))))))
theorem mobz_986 : xBm bz_986 := fun dl fs i1 i2 fin hi => (m_aload (m_iconst (m_iconst (m_iconst (m_iconst (m_callv hi))))))
theorem mobz_987 : xBm bz_987 := fun dl fs i1 i2 fin hi => (m_aload (m_iconst (m_iconst (m_iconst (m_iconst (m_callv hi))))))
theorem mobz_988 : xBm bz_988 := fun dl fs i1 i2 fin hi => (m_aload (m_iconst (m_iconst (m_iconst (m_iconst (m_callv hi))))))
theorem mobz_989 : xBm bz_989 := fun dl fs i1 i2 fin hi => (m_aload (m_getr (m_iconst (m_iconst (m_ast (m_aload (m_getr (m_iconst (m_iconst (m_ast (m_aload (m_getr (m_iconst (m_iconst (m_ast (m_aload (m_getr (m_iconst (m_iconst (m_ast (m_aload (m_getr (m_xgo hi)))))))))))))))))))))))
theorem mobz_990 : xBm bz_990 := fun dl fs i1 i2 fin hi => (m_ast (m_ret hi))
theorem mobz_991 : xBm bz_991 := fun dl fs i1 i2 fin hi => (m_aload (m_getr (m_iload (m_iload (m_ast (m_aload (m_getr (m_iload (m_iconst (m_ast (m_aload (m_getr (m_iload (m_iload (m_ast (m_aload (m_getr (m_iload (m_iconst (m_iload (m_bin (m_ast (m_xgo hi)))))))))))))))))))))))
theorem mobz_992 : xBm bz_992 := fun dl fs i1 i2 fin hi => (m_aload (m_geti (m_if1 m_no (m_aload (m_getr (m_iconst (m_ald (m_iconst (m_if2 (m_xgo hi) m_no)))))))))
theorem mobz_993 : xBm bz_993 := fun dl fs i1 i2 fin hi => (m_aload (m_getr (m_iconst (m_ald (m_istore (m_aload (m_getr (m_iconst (m_dup2 (m_ald (m_iconst (m_bin (m_ast (m_aload (m_getr (m_iload (m_iload (m_ast (m_aload (m_getr (m_iload (m_iconst (m_xgo hi)))))))))))))))))))))))
theorem mobz_994 : xBm bz_994 := fun dl fs i1 i2 fin hi => (m_aload (m_getr (m_iconst (m_ald (m_iconst (m_if2 (m_xgo hi) m_no))))))
theorem mobz_995 : xBm bz_995 := fun dl fs i1 i2 fin hi => (m_aload (m_getr (m_iconst (m_ald (m_istore (m_aload (m_getr (m_iconst (m_dup2 (m_ald (m_iconst (m_bin (m_ast (m_aload (m_getr (m_iload (m_iload (m_ast (m_aload (m_getr (m_iload (m_iload (m_xgo hi)))))))))))))))))))))))
theorem mobz_996 : xBm bz_996 := fun dl fs i1 i2 fin hi => (m_iconst (m_ast (m_iload (m_iret hi))))
theorem mobz_997 : xBm bz_997 := fun dl fs i1 i2 fin hi => (m_ast (m_iload (m_iret hi)))
theorem mobz_998 : xBm bz_998 := fun dl fs i1 i2 fin hi => (m_aload (m_getr (m_iconst (m_ald (m_iconst (m_if2 (m_xgo hi) m_no))))))
theorem mobz_999 : xBm bz_999 := fun dl fs i1 i2 fin hi => (m_aload (m_getr (m_iconst (m_ald (m_istore (m_aload (m_getr (m_iconst (m_dup2 (m_ald (m_iconst (m_bin (m_ast (m_aload (m_getr (m_iload (m_iload (m_ast (m_aload (m_getr (m_iload (m_iload (m_xgo hi)))))))))))))))))))))))
theorem mobz_1000 : xBm bz_1000 := fun dl fs i1 i2 fin hi => (m_aload (m_getr (m_iconst (m_calls hi))))
theorem mobz_1001 : xBm bz_1001 := fun dl fs i1 i2 fin hi => (m_aload (m_getr (m_iconst (m_aload (m_getr (m_iconst (m_iconst (m_copy (m_aload (m_getr (m_iconst (m_aload (m_getr (m_iconst (m_iconst (m_copy (m_aload (m_getr (m_iconst (m_aload (m_getr (m_iconst (m_xgo hi)))))))))))))))))))))))
theorem mobz_1002 : xBm bz_1002 := fun dl fs i1 i2 fin hi => (m_iload (m_iconst (m_if2 (m_xgo hi) (m_iconst (m_iret hi)))))
theorem mobz_1003 : xBm bz_1003 := fun dl fs i1 i2 fin hi => (m_iload (m_iconst (m_if2 (m_xgo hi) (m_aload (m_getr (m_iload (m_iconst (m_bin (m_ald (m_xgo hi))))))))))
theorem mobz_1004 : xBm bz_1004 := fun dl fs i1 i2 fin hi => (m_iconst (m_iret hi))
theorem mobz_1005 : xBm bz_1005 := fun dl fs i1 i2 fin hi => (m_iret hi)
theorem mobz_1006 : xBm bz_1006 := fun dl fs i1 i2 fin hi => (m_iconst (m_iload (m_iconst (m_bin (m_bin (m_iload (m_bin (m_iret hi))))))))
theorem mobz_1007 : xBm bz_1007 := fun dl fs i1 i2 fin hi => (m_iload (m_if1 (m_xgo hi) (m_iload (m_aload (m_callv hi)))))
theorem mobz_1008 : xBm bz_1008 := fun dl fs i1 i2 fin hi => (m_if2 (m_xgo hi) (m_iconst (m_iret hi)))
theorem mobz_1009 : xBm bz_1009 := fun dl fs i1 i2 fin hi => (m_iconst (m_iret hi))
theorem mobz_1010 : xBm bz_1010 := fun dl fs i1 i2 fin hi => (m_iload (m_aload (m_geti (m_if2 m_no (m_iload (m_xgo hi))))))
theorem mobz_1011 : xBm bz_1011 := fun dl fs i1 i2 fin hi => (m_iret hi)
theorem mobz_1012 : xBm bz_1012 := fun dl fs i1 i2 fin hi => (m_aload (m_getr (m_iconst (m_aload (m_getr (m_iconst (m_iconst (m_copy (m_aload (m_getr (m_iconst (m_aload (m_getr (m_iconst (m_iconst (m_copy (m_aload (m_aload (m_getr (m_iconst (m_ald (m_puti (m_xgo hi)))))))))))))))))))))))
theorem mobz_1013 : xBm bz_1013 := fun dl fs i1 i2 fin hi => (m_aload (m_geti (m_aload (m_geti (m_bin (m_aload (m_geti (m_bin (m_iret hi)))))))))
theorem mobz_1014 : xBm bz_1014 := fun dl fs i1 i2 fin hi => (m_aload (m_getr (m_astore (m_aload (m_aload (m_getr (m_putr (m_aload (m_aload (m_putr (m_aload (m_aload (m_getr (m_iconst (m_ald (m_puti (m_aload (m_aload (m_getr (m_iconst (m_ald (m_puti (m_xgo hi)))))))))))))))))))))))
theorem mobz_1015 : xBm bz_1015 := fun dl fs i1 i2 fin hi => (m_aload (m_obj (m_aload (m_iconst (m_newa (m_putr (m_aload (m_iconst (m_newa (m_putr (m_aload (m_iconst (m_newa (m_putr (m_aload (m_iconst (m_newa (m_putr (m_aload (m_iconst (m_newa (m_putr (m_xgo hi)))))))))))))))))))))))
theorem mobz_1016 : xBm bz_1016 := fun dl fs i1 i2 fin hi => (m_aload (m_getr (m_iconst (m_iconst (m_iconst (m_iconst (m_callv hi)))))))
theorem mobz_1017 : xBm bz_1017 := fun dl fs i1 i2 fin hi => (m_istore (m_aload (m_getr (m_getr (m_iload (m_iload (m_ast (m_iload (m_if1 (m_xgo hi) (m_aload (m_getr (m_getr (m_iload (m_iload (m_ast (m_xgo hi))))))))))))))))
theorem mobz_1018 : xBm bz_1018 := fun dl fs i1 i2 fin hi => (m_aload (m_getr (m_getr (m_iload (m_iload (m_ast (m_aload (m_getr (m_getr (m_iload (m_dup2 (m_ald (m_iconst (m_bin (m_ast (m_iload (m_iret hi)))))))))))))))))
theorem mobz_1019 : xBm bz_1019 := fun dl fs i1 i2 fin hi => (m_aload (m_getr (m_getr (m_iload (m_dup2 (m_ald (m_iconst (m_bin (m_ast (m_iload (m_iret hi)))))))))))
theorem mobz_1020 : xBm bz_1020 := fun dl fs i1 i2 fin hi => (m_aload (m_geti (m_iconst (m_if2 (m_xgo hi) m_no))))
theorem mobz_1021 : xBm bz_1021 := fun dl fs i1 i2 fin hi => (m_aload (m_geti (m_iconst (m_bin (m_istore (m_aload (m_getr (m_iload (m_iload (m_ast (m_aload (m_getr (m_iload (m_iconst (m_bin (m_iload (m_ast (m_aload (m_getr (m_iload (m_iconst (m_bin (m_xgo hi)))))))))))))))))))))))
theorem mobz_1022 : xBm bz_1022 := fun dl fs i1 i2 fin hi => (m_aload (m_getr (m_getr (m_iload (m_ald (m_if1 (m_xgo hi) m_no))))))
theorem mobz_1023 : xBm bz_1023 := fun dl fs i1 i2 fin hi => (m_aload (m_getr (m_iconst (m_iconst (m_aload (m_getr (m_getr (m_iload (m_ald (m_iload (m_callv hi)))))))))))
theorem mobz_1024 : xBm bz_1024 := fun dl fs i1 i2 fin hi => (m_istore (m_aload (m_geti (m_if1 (m_xgo hi) (m_aload (m_iload (m_puti (m_xgo hi))))))))
theorem mobz_1025 : xBm bz_1025 := fun dl fs i1 i2 fin hi => (m_aload (m_getr (m_getr (m_aload (m_geti (m_iload (m_ast (m_aload (m_iload (m_puti (m_ret hi)))))))))))
theorem mobz_1026 : xBm bz_1026 := fun dl fs i1 i2 fin hi => (m_aload (m_iload (m_puti (m_ret hi))))
theorem mobz_1027 : xBm bz_1027 := fun dl fs i1 i2 fin hi => (m_iconst (m_istore (m_aload (m_getr (m_getr (m_iload (m_ald (m_istore (m_xgo hi)))))))))
theorem mobz_1028 : xBm bz_1028 := fun dl fs i1 i2 fin hi => (m_iload (m_aload (m_getr (m_getr (m_iload (m_ald (m_if2 (m_xgo hi) (m_iload (m_aload (m_getr (m_getr (m_iload (m_ald (m_iconst (m_if2 (m_xgo hi) (m_aload (m_getr (m_getr (m_iload (m_ald (m_iconst (m_if2 (m_xgo hi) (m_xgo hi)))))))))))))))))))))))
theorem mobz_1029 : xBm bz_1029 := fun dl fs i1 i2 fin hi => (m_iconst (m_xgo hi))
theorem mobz_1030 : xBm bz_1030 := fun dl fs i1 i2 fin hi => (m_iconst (m_bin (m_istore (m_iinc (m_xgo hi)))))
theorem mobz_1031 : xBm bz_1031 := fun dl fs i1 i2 fin hi => (m_bin (m_istore (m_iinc (m_xgo hi))))
theorem mobz_1032 : xBm bz_1032 := fun dl fs i1 i2 fin hi => (m_iload (m_iret hi))
theorem mobz_1033 : xBm bz_1033 := fun dl fs i1 i2 fin hi => (m_iconst (m_istore (m_aload (m_getr (m_getr (m_iload (m_ald (m_istore (m_xgo hi)))))))))
theorem mobz_1034 : xBm bz_1034 := fun dl fs i1 i2 fin hi => (m_iload (m_aload (m_getr (m_getr (m_iload (m_ald (m_if2 (m_xgo hi) (m_iload (m_aload (m_getr (m_getr (m_iload (m_ald (m_iconst (m_if2 (m_xgo hi) (m_iconst (m_xgo hi)))))))))))))))))
theorem mobz_1035 : xBm bz_1035 := fun dl fs i1 i2 fin hi => (m_iconst (m_bin (m_istore (m_iinc (m_xgo hi)))))
theorem mobz_1036 : xBm bz_1036 := fun dl fs i1 i2 fin hi => (m_bin (m_istore (m_iinc (m_xgo hi))))
theorem mobz_1037 : xBm bz_1037 := fun dl fs i1 i2 fin hi => (m_iload (m_iret hi))
theorem mobz_1038 : xBm bz_1038 := fun dl fs i1 i2 fin hi => (m_iload (m_iconst (m_bin (m_istore (m_iload (m_iload (m_if2 (m_xgo hi) (m_iconst (m_istore (m_iconst (m_istore (m_aload (m_iload (m_callv hi))))))))))))))
theorem mobz_1039 : xBm bz_1039 := fun dl fs i1 i2 fin hi => (m_iload (m_iload (m_if2 (m_xgo hi) (m_iconst (m_istore (m_iconst (m_istore (m_aload (m_iload (m_callv hi))))))))))
theorem mobz_1040 : xBm bz_1040 := fun dl fs i1 i2 fin hi => (m_if1 (m_xgo hi) (m_aload (m_getr (m_getr (m_iload (m_ald (m_xgo hi)))))))
theorem mobz_1041 : xBm bz_1041 := fun dl fs i1 i2 fin hi => (m_iconst (m_istore (m_iload (m_if1 (m_xgo hi) (m_iload (m_if1 m_no (m_aload (m_getr (m_getr (m_iload (m_ald (m_iconst (m_if2 m_no (m_iconst (m_xgo hi)))))))))))))))
theorem mobz_1042 : xBm bz_1042 := fun dl fs i1 i2 fin hi => (m_istore (m_iload (m_if1 (m_xgo hi) (m_iload (m_if1 m_no (m_aload (m_getr (m_getr (m_iload (m_ald (m_iconst (m_if2 m_no (m_iconst (m_xgo hi))))))))))))))
theorem mobz_1043 : xBm bz_1043 := fun dl fs i1 i2 fin hi => (m_iload (m_if1 (m_xgo hi) (m_iload (m_if1 m_no (m_aload (m_getr (m_getr (m_iload (m_ald (m_iconst (m_if2 m_no (m_iconst (m_xgo hi)))))))))))))
theorem mobz_1044 : xBm bz_1044 := fun dl fs i1 i2 fin hi => (m_istore (m_iload (m_if1 (m_xgo hi) (m_aload (m_getr (m_getr (m_iload (m_ald (m_iconst (m_if2 m_no (m_xgo hi)))))))))))
theorem mobz_1045 : xBm bz_1045 := fun dl fs i1 i2 fin hi => (m_iconst (m_xgo hi))
theorem mobz_1046 : xBm bz_1046 := fun dl fs i1 i2 fin hi => (m_istore (m_aload (m_getr (m_getr (m_iload (m_ald (m_istore (m_xgo hi))))))))
theorem mobz_1047 : xBm bz_1047 := fun dl fs i1 i2 fin hi => (m_iconst (m_istore (m_aload (m_getr (m_getr (m_iload (m_ald (m_tablen (And.intro (m_xgo hi) (And.intro (m_xgo hi) (And.intro (m_xgo hi) (And.intro (m_xgo hi) True.intro)))) (m_xgo hi)))))))))
theorem mobz_1048 : xBm bz_1048 := fun dl fs i1 i2 fin hi => (m_aload (m_getr (m_getr (m_aload (m_getr (m_getr (m_aload (m_getr (m_getr (m_iload (m_ald (m_ald (m_ald (m_iconst (m_if2 m_no (m_iconst (m_xgo hi)))))))))))))))))
theorem mobz_1049 : xBm bz_1049 := fun dl fs i1 i2 fin hi => (m_istore (m_xgo hi))
theorem mobz_1050 : xBm bz_1050 := fun dl fs i1 i2 fin hi => (m_aload (m_getr (m_getr (m_aload (m_getr (m_getr (m_aload (m_getr (m_getr (m_iload (m_ald (m_ald (m_ald (m_iconst (m_bin (m_istore (m_iload (m_if1 (m_xgo hi) (m_aload (m_getr (m_getr (m_iload (m_xgo hi)))))))))))))))))))))))
theorem mobz_1051 : xBm bz_1051 := fun dl fs i1 i2 fin hi => (m_iconst (m_istore (m_xgo hi)))
theorem mobz_1052 : xBm bz_1052 := fun dl fs i1 i2 fin hi => (m_istore (m_xgo hi))
theorem mobz_1053 : xBm bz_1053 := fun dl fs i1 i2 fin hi => (m_iload (m_istore (m_xgo hi)))
theorem mobz_1054 : xBm bz_1054 := fun dl fs i1 i2 fin hi => (m_aload (m_getr (m_getr (m_iload (m_iload (m_if1 (m_xgo hi) (m_iconst (m_xgo hi))))))))
theorem mobz_1055 : xBm bz_1055 := fun dl fs i1 i2 fin hi => (m_iconst (m_ast (m_iinc (m_xgo hi))))
theorem mobz_1056 : xBm bz_1056 := fun dl fs i1 i2 fin hi => (m_ast (m_iinc (m_xgo hi)))
theorem mobz_1057 : xBm bz_1057 := fun dl fs i1 i2 fin hi => (m_aload (m_getr (m_getr (m_iload (m_ald (m_iconst (m_if2 (m_xgo hi) (m_iconst (m_xgo hi)))))))))
theorem mobz_1058 : xBm bz_1058 := fun dl fs i1 i2 fin hi => (m_iconst (m_zret hi))
theorem mobz_1059 : xBm bz_1059 := fun dl fs i1 i2 fin hi => (m_zret hi)
theorem mobz_1060 : xBm bz_1060 := fun dl fs i1 i2 fin hi => (m_iconst (m_istore (m_aload (m_getr (m_getr (m_iconst (m_ald (m_istore (m_xgo hi)))))))))
theorem mobz_1061 : xBm bz_1061 := fun dl fs i1 i2 fin hi => (m_iload (m_aload (m_getr (m_getr (m_iconst (m_ald (m_if2 (m_xgo hi) (m_iload (m_if1 (m_xgo hi) (m_iconst (m_istore (m_aload (m_getr (m_getr (m_iconst (m_ald (m_istore (m_xgo hi))))))))))))))))))
theorem mobz_1062 : xBm bz_1062 := fun dl fs i1 i2 fin hi => (m_iload (m_aload (m_getr (m_getr (m_iconst (m_ald (m_if2 (m_xgo hi) (m_aload (m_getr (m_getr (m_iload (m_ald (m_if1 (m_xgo hi) (m_aload (m_getr (m_getr (m_iload (m_ald (m_if1 (m_xgo hi) (m_aload (m_iload (m_callv hi))))))))))))))))))))))
theorem mobz_1063 : xBm bz_1063 := fun dl fs i1 i2 fin hi => (m_if1 (m_xgo hi) (m_aload (m_getr (m_getr (m_iload (m_iconst (m_ast (m_iconst (m_istore (m_xgo hi))))))))))
theorem mobz_1064 : xBm bz_1064 := fun dl fs i1 i2 fin hi => (m_iinc (m_xgo hi))
theorem mobz_1065 : xBm bz_1065 := fun dl fs i1 i2 fin hi => (m_iinc (m_xgo hi))
theorem mobz_1066 : xBm bz_1066 := fun dl fs i1 i2 fin hi => (m_ret hi)
theorem mobz_1067 : xBm bz_1067 := fun dl fs i1 i2 fin hi => (m_aload (m_getr (m_getr (m_iload (m_ald (m_iconst (m_if2 (m_xgo hi) (m_aload (m_getr (m_getr (m_iload (m_ald (m_iconst (m_if2 (m_xgo hi) (m_xgo hi)))))))))))))))
theorem mobz_1068 : xBm bz_1068 := fun dl fs i1 i2 fin hi => (m_iconst (m_xgo hi))
theorem mobz_1069 : xBm bz_1069 := fun dl fs i1 i2 fin hi => (m_iconst (m_zret hi))
theorem mobz_1070 : xBm bz_1070 := fun dl fs i1 i2 fin hi => (m_zret hi)
theorem mobz_1071 : xBm bz_1071 := fun dl fs i1 i2 fin hi => (m_aload (m_iload (m_callv hi)))
theorem mobz_1072 : xBm bz_1072 := fun dl fs i1 i2 fin hi => (m_if1 (m_xgo hi) (m_iconst (m_zret hi)))
theorem mobz_1073 : xBm bz_1073 := fun dl fs i1 i2 fin hi => (m_iconst (m_istore (m_aload (m_getr (m_getr (m_iload (m_ald (m_istore (m_xgo hi)))))))))
theorem mobz_1074 : xBm bz_1074 := fun dl fs i1 i2 fin hi => (m_iload (m_if1 (m_xgo hi) (m_iload (m_aload (m_getr (m_getr (m_iload (m_ald (m_if2 (m_xgo hi) (m_aload (m_getr (m_getr (m_iload (m_ald (m_iconst (m_if2 (m_xgo hi) m_no))))))))))))))))
theorem mobz_1075 : xBm bz_1075 := fun dl fs i1 i2 fin hi => (m_iinc (m_iload (m_istore (m_iload (m_aload (m_getr (m_getr (m_iload (m_ald (m_if2 (m_xgo hi) (m_aload (m_getr (m_getr (m_iload (m_ald (m_istore (m_iload (m_iconst (m_if2 m_no (m_iload (m_iconst (m_if2 m_no (m_xgo hi)))))))))))))))))))))))
theorem mobz_1076 : xBm bz_1076 := fun dl fs i1 i2 fin hi => (m_iload (m_aload (m_getr (m_getr (m_iload (m_ald (m_if2 (m_xgo hi) (m_aload (m_getr (m_getr (m_iload (m_ald (m_istore (m_iload (m_iconst (m_if2 m_no (m_iload (m_iconst (m_if2 m_no (m_iload (m_iconst (m_if2 (m_xgo hi) (m_xgo hi)))))))))))))))))))))))
theorem mobz_1077 : xBm bz_1077 := fun dl fs i1 i2 fin hi => (m_iinc (m_xgo hi))
theorem mobz_1078 : xBm bz_1078 := fun dl fs i1 i2 fin hi => (m_aload (m_getr (m_getr (m_iload (m_ald (m_istore (m_xgo hi)))))))
theorem mobz_1079 : xBm bz_1079 := fun dl fs i1 i2 fin hi => (m_iconst (m_zret hi))
theorem mobz_1080 : xBm bz_1080 := fun dl fs i1 i2 fin hi => (m_aload (m_getr (m_iload (m_ald (m_istore (m_aload (m_getr (m_iload (m_iconst (m_bin (m_ald (m_istore (m_aload (m_getr (m_iload (m_iconst (m_bin (m_ald (m_istore (m_aload (m_getr (m_iload (m_xgo hi)))))))))))))))))))))))
theorem mobz_1081 : xBm bz_1081 := fun dl fs i1 i2 fin hi => (m_istore (m_aload (m_getr (m_getr (m_iload (m_iload (m_if1 (m_xgo hi) m_no)))))))
theorem mobz_1082 : xBm bz_1082 := fun dl fs i1 i2 fin hi => (m_iconst (m_ast (m_aload (m_getr (m_getr (m_iload (m_iload (m_ast (m_aload (m_geti (m_istore (m_iload (m_istore (m_iconst (m_istore (m_iconst (m_istore (m_iload (m_istore (m_xgo hi))))))))))))))))))))
theorem mobz_1083 : xBm bz_1083 := fun dl fs i1 i2 fin hi => (m_iload (m_iload (m_if2 (m_xgo hi) (m_aload (m_geti (m_if1 (m_xgo hi) (m_iload (m_istore (m_aload (m_iload (m_iload (m_iload (m_callv hi)))))))))))))
theorem mobz_1084 : xBm bz_1084 := fun dl fs i1 i2 fin hi => (m_istore (m_iload (m_istore (m_iload (m_iload (m_if2 (m_xgo hi) (m_aload (m_getr (m_iload (m_ald (m_iload (m_if2 (m_xgo hi) (m_aload (m_getr (m_iload (m_aload (m_getr (m_iload (m_ald (m_ast (m_iinc (m_xgo hi))))))))))))))))))))))
theorem mobz_1085 : xBm bz_1085 := fun dl fs i1 i2 fin hi => (m_iload (m_iload (m_if2 (m_xgo hi) (m_aload (m_getr (m_iload (m_ald (m_iload (m_if2 (m_xgo hi) (m_aload (m_getr (m_iload (m_aload (m_getr (m_iload (m_ald (m_ast (m_iinc (m_xgo hi)))))))))))))))))))
theorem mobz_1086 : xBm bz_1086 := fun dl fs i1 i2 fin hi => (m_iinc (m_xgo hi))
theorem mobz_1087 : xBm bz_1087 := fun dl fs i1 i2 fin hi => (m_aload (m_iload (m_iload (m_iload (m_if1 (m_xgo hi) m_no)))))
theorem mobz_1088 : xBm bz_1088 := fun dl fs i1 i2 fin hi => (m_iload (m_callv hi))
theorem mobz_1089 : xBm bz_1089 := fun dl fs i1 i2 fin hi => (m_istore (m_aload (m_iload (m_iload (m_if1 (m_xgo hi) m_no)))))
theorem mobz_1090 : xBm bz_1090 := fun dl fs i1 i2 fin hi => (m_aload (m_getr (m_getr (m_iload (m_ald (m_iload (m_iload (m_iload (m_callv hi)))))))))
theorem mobz_1091 : xBm bz_1091 := fun dl fs i1 i2 fin hi => (m_istore (m_aload (m_iload (m_iload (m_iload (m_iload (m_iload (m_callv hi))))))))
theorem mobz_1092 : xBm bz_1092 := fun dl fs i1 i2 fin hi => (m_iload (m_istore (m_xgo hi)))
theorem mobz_1093 : xBm bz_1093 := fun dl fs i1 i2 fin hi => (m_aload (m_getr (m_iload (m_aload (m_getr (m_iload (m_iload (m_iload (m_bin (m_copy (m_aload (m_getr (m_iload (m_aload (m_getr (m_iload (m_iload (m_iload (m_bin (m_copy (m_iload (m_istore (m_xgo hi)))))))))))))))))))))))
theorem mobz_1094 : xBm bz_1094 := fun dl fs i1 i2 fin hi => (m_iload (m_aload (m_geti (m_if2 (m_xgo hi) (m_aload (m_getr (m_iload (m_iconst (m_bin (m_iconst (m_bin (m_dup2 (m_ald (m_iload (m_iload (m_bin (m_bin (m_ast (m_aload (m_getr (m_iload (m_iconst (m_xgo hi)))))))))))))))))))))))
theorem mobz_1095 : xBm bz_1095 := fun dl fs i1 i2 fin hi => (m_ret hi)
theorem mobz_1096 : xBm bz_1096 := fun dl fs i1 i2 fin hi => (m_aload (m_iconst (m_putz (m_iload (m_istore (m_iload (m_iload (m_if2 (m_xgo hi) (m_aload (m_getr (m_getr (m_iload (m_ald (m_iconst (m_if2 m_no (m_aload (m_getr (m_getr (m_iload (m_ald (m_iconst (m_if2 m_no (m_xgo hi)))))))))))))))))))))))
theorem mobz_1097 : xBm bz_1097 := fun dl fs i1 i2 fin hi => (m_iload (m_iload (m_if2 (m_xgo hi) (m_aload (m_getr (m_getr (m_iload (m_ald (m_iconst (m_if2 m_no (m_aload (m_getr (m_getr (m_iload (m_ald (m_iconst (m_if2 m_no (m_xgo hi))))))))))))))))))
theorem mobz_1098 : xBm bz_1098 := fun dl fs i1 i2 fin hi => (m_iinc (m_xgo hi))
theorem mobz_1099 : xBm bz_1099 := fun dl fs i1 i2 fin hi => (m_ret hi)
theorem mobz_1100 : xBm bz_1100 := fun dl fs i1 i2 fin hi => (m_aload (m_iconst (m_puti (m_iconst (m_istore (m_aload (m_getr (m_getr (m_iload (m_ald (m_istore (m_xgo hi))))))))))))
theorem mobz_1101 : xBm bz_1101 := fun dl fs i1 i2 fin hi => (m_iload (m_if1 (m_xgo hi) (m_iload (m_aload (m_getr (m_getr (m_iload (m_ald (m_if2 (m_xgo hi) (m_aload (m_getr (m_getr (m_iload (m_ald (m_iconst (m_if2 (m_xgo hi) (m_iload (m_iconst (m_if2 (m_xgo hi) (m_aload (m_getr (m_getr (m_xgo hi)))))))))))))))))))))))
theorem mobz_1102 : xBm bz_1102 := fun dl fs i1 i2 fin hi => (m_ast (m_aload (m_getr (m_iload (m_iload (m_ast (m_iinc (m_aload (m_getr (m_getr (m_iload (m_ald (m_istore (m_xgo hi))))))))))))))
theorem mobz_1103 : xBm bz_1103 := fun dl fs i1 i2 fin hi => (m_aload (m_getr (m_getr (m_iload (m_aload (m_iload (m_aload (m_getr (m_getr (m_iload (m_ald (m_callv hi))))))))))))
theorem mobz_1104 : xBm bz_1104 := fun dl fs i1 i2 fin hi => (m_ast (m_aload (m_getr (m_getr (m_iload (m_aload (m_getr (m_geti (m_ast (m_aload (m_getr (m_getr (m_iload (m_aload (m_aload (m_getr (m_getr (m_iload (m_ald (m_aload (m_getr (m_geti (m_xgo hi)))))))))))))))))))))))
theorem mobz_1105 : xBm bz_1105 := fun dl fs i1 i2 fin hi => (m_ast (m_ret hi))
theorem mobz_1106 : xBm bz_1106 := fun dl fs i1 i2 fin hi => (m_aload (m_getr (m_getr (m_iload (m_iconst (m_ast (m_aload (m_getr (m_getr (m_iload (m_aload (m_getr (m_iload (m_iconst (m_bin (m_ald (m_ast (m_aload (m_getr (m_getr (m_iload (m_iload (m_xgo hi)))))))))))))))))))))))
theorem mobz_1107 : xBm bz_1107 := fun dl fs i1 i2 fin hi => (m_aload (m_iload (m_aload (m_getr (m_geti (m_callv hi))))))
theorem mobz_1108 : xBm bz_1108 := fun dl fs i1 i2 fin hi => (m_aload (m_getr (m_getr (m_iconst (m_ald (m_istore (m_iload (m_aload (m_getr (m_getr (m_iconst (m_ald (m_if2 (m_xgo hi) (m_aload (m_getr (m_getr (m_iload (m_ald (m_if1 (m_xgo hi) (m_aload (m_iload (m_callv hi))))))))))))))))))))))
theorem mobz_1109 : xBm bz_1109 := fun dl fs i1 i2 fin hi => (m_iload (m_aload (m_getr (m_getr (m_iconst (m_ald (m_if2 (m_xgo hi) (m_aload (m_getr (m_getr (m_iload (m_ald (m_if1 (m_xgo hi) (m_aload (m_iload (m_callv hi))))))))))))))))
theorem mobz_1110 : xBm bz_1110 := fun dl fs i1 i2 fin hi => (m_iinc (m_xgo hi))
theorem mobz_1111 : xBm bz_1111 := fun dl fs i1 i2 fin hi => (m_aload (m_callv hi))
theorem mobz_1112 : xBm bz_1112 := fun dl fs i1 i2 fin hi => (m_ret hi)
theorem mobz_1113 : xBm bz_1113 := fun dl fs i1 i2 fin hi => (m_aload (m_getr (m_iload (m_iconst (m_bin (m_ald (m_istore (m_aload (m_getr (m_iload (m_iconst (m_bin (m_ald (m_istore (m_iconst (m_istore (m_aload (m_getr (m_iload (m_iconst (m_bin (m_ald (m_xgo hi)))))))))))))))))))))))
theorem mobz_1114 : xBm bz_1114 := fun dl fs i1 i2 fin hi => (m_iload (m_aload (m_getr (m_iload (m_iconst (m_bin (m_ald (m_if2 (m_xgo hi) (m_iconst (m_istore (m_iload (m_istore (m_xgo hi)))))))))))))
theorem mobz_1115 : xBm bz_1115 := fun dl fs i1 i2 fin hi => (m_iload (m_iload (m_if2 (m_xgo hi) (m_iload (m_aload (m_aload (m_getr (m_iload (m_ald (m_aload (m_getr (m_iload (m_ald (m_callv hi))))))))))))))
theorem mobz_1116 : xBm bz_1116 := fun dl fs i1 i2 fin hi => (m_if1 (m_xgo hi) (m_iconst (m_xgo hi)))
theorem mobz_1117 : xBm bz_1117 := fun dl fs i1 i2 fin hi => (m_iconst (m_bin (m_istore (m_iinc (m_xgo hi)))))
theorem mobz_1118 : xBm bz_1118 := fun dl fs i1 i2 fin hi => (m_bin (m_istore (m_iinc (m_xgo hi))))
theorem mobz_1119 : xBm bz_1119 := fun dl fs i1 i2 fin hi => (m_iload (m_if1 (m_xgo hi) (m_iload (m_iload (m_iload (m_bin (m_if2 (m_xgo hi) (m_aload (m_iload (m_aload (m_getr (m_iload (m_ald (m_callv hi))))))))))))))
theorem mobz_1120 : xBm bz_1120 := fun dl fs i1 i2 fin hi => (m_ret hi)
theorem mobz_1121 : xBm bz_1121 := fun dl fs i1 i2 fin hi => (m_iload (m_if1 (m_xgo hi) m_no))
theorem mobz_1122 : xBm bz_1122 := fun dl fs i1 i2 fin hi => (m_iinc (m_xgo hi))
theorem mobz_1123 : xBm bz_1123 := fun dl fs i1 i2 fin hi => (m_aload (m_iload (m_iload (m_callv hi))))
theorem mobz_1124 : xBm bz_1124 := fun dl fs i1 i2 fin hi => (m_ret hi)
theorem mobz_1125 : xBm bz_1125 := fun dl fs i1 i2 fin hi => (m_aload (m_getr (m_iload (m_ald (m_istore (m_aload (m_getr (m_iload (m_iconst (m_bin (m_ald (m_istore (m_aload (m_getr (m_iload (m_iconst (m_bin (m_ald (m_istore (m_aload (m_getr (m_iload (m_xgo hi)))))))))))))))))))))))
theorem mobz_1126 : xBm bz_1126 := fun dl fs i1 i2 fin hi => (m_ret hi)
theorem mobz_1127 : xBm bz_1127 := fun dl fs i1 i2 fin hi => (m_aload (m_getr (m_getr (m_iload (m_iconst (m_ast (m_iload (m_iload (m_bin (m_istore (m_iconst (m_istore (m_iload (m_istore (m_iload (m_istore (m_xgo hi)))))))))))))))))
theorem mobz_1128 : xBm bz_1128 := fun dl fs i1 i2 fin hi => (m_iload (m_iload (m_if2 (m_xgo hi) (m_iload (m_iconst (m_bin (m_istore (m_iload (m_if1 (m_xgo hi) m_no)))))))))
theorem mobz_1129 : xBm bz_1129 := fun dl fs i1 i2 fin hi => (m_aload (m_iload (m_iload (m_iconst (m_callv hi)))))
theorem mobz_1130 : xBm bz_1130 := fun dl fs i1 i2 fin hi => (m_istore (m_iload (m_iload (m_bin (m_iconst (m_if2 (m_xgo hi) m_no))))))
theorem mobz_1131 : xBm bz_1131 := fun dl fs i1 i2 fin hi => (m_aload (m_getr (m_iload (m_aload (m_getr (m_iload (m_iload (m_copy (m_aload (m_iload (m_iload (m_iload (m_iload (m_iload (m_iload (m_bin (m_callv hi)))))))))))))))))
theorem mobz_1132 : xBm bz_1132 := fun dl fs i1 i2 fin hi => (m_iload (m_iload (m_bin (m_istore (m_iload (m_istore (m_xgo hi)))))))
theorem mobz_1133 : xBm bz_1133 := fun dl fs i1 i2 fin hi => (m_ret hi)
theorem mobz_1134 : xBm bz_1134 := fun dl fs i1 i2 fin hi => (m_aload (m_iconst (m_puti (m_aload (m_iconst (m_puti (m_aload (m_iconst (m_puti (m_aload (m_iconst (m_puti (m_iconst (m_istore (m_iload (m_istore (m_xgo hi)))))))))))))))))
theorem mobz_1135 : xBm bz_1135 := fun dl fs i1 i2 fin hi => (m_iload (m_if1 (m_xgo hi) (m_iinc (m_aload (m_iload (m_aload (m_iconst (m_iload (m_callv hi)))))))))
theorem mobz_1136 : xBm bz_1136 := fun dl fs i1 i2 fin hi => (m_iload (m_callv hi))
theorem mobz_1137 : xBm bz_1137 := fun dl fs i1 i2 fin hi => (m_aload (m_getr (m_getr (m_iload (m_ald (m_istore (m_xgo hi)))))))
theorem mobz_1138 : xBm bz_1138 := fun dl fs i1 i2 fin hi => (m_aload (m_geti (m_if1 m_no (m_aload (m_geti (m_iret hi))))))
theorem mobz_1139 : xBm bz_1139 := fun dl fs i1 i2 fin hi => (m_iconst (m_istore (m_iload (m_iload (m_if2 (m_xgo hi) (m_aload (m_getr (m_iload (m_iload (m_iconst (m_bin (m_ast (m_iinc (m_xgo hi))))))))))))))
theorem mobz_1140 : xBm bz_1140 := fun dl fs i1 i2 fin hi => (m_iload (m_iload (m_if2 (m_xgo hi) (m_aload (m_getr (m_iload (m_iload (m_iconst (m_bin (m_ast (m_iinc (m_xgo hi))))))))))))
theorem mobz_1141 : xBm bz_1141 := fun dl fs i1 i2 fin hi => (m_iconst (m_istore (m_iload (m_iload (m_if2 (m_xgo hi) (m_aload (m_getr (m_iload (m_aload (m_iconst (m_iload (m_iconst (m_bin (m_callv hi))))))))))))))
theorem mobz_1142 : xBm bz_1142 := fun dl fs i1 i2 fin hi => (m_iload (m_iload (m_if2 (m_xgo hi) (m_aload (m_getr (m_iload (m_aload (m_iconst (m_iload (m_iconst (m_bin (m_callv hi))))))))))))
theorem mobz_1143 : xBm bz_1143 := fun dl fs i1 i2 fin hi => (m_ast (m_iinc (m_xgo hi)))
theorem mobz_1144 : xBm bz_1144 := fun dl fs i1 i2 fin hi => (m_aload (m_getr (m_iconst (m_iconst (m_iconst (m_iconst (m_callv hi)))))))
theorem mobz_1145 : xBm bz_1145 := fun dl fs i1 i2 fin hi => (m_istore (m_aload (m_iconst (m_puti (m_aload (m_iload (m_iconst (m_iload (m_iconst (m_iload (m_callv hi)))))))))))
theorem mobz_1146 : xBm bz_1146 := fun dl fs i1 i2 fin hi => (m_iconst (m_istore (m_iload (m_iconst (m_if2 (m_xgo hi) (m_aload (m_geti (m_if1 (m_xgo hi) (m_aload (m_geti (m_if1 (m_xgo hi) (m_aload (m_dup (m_geti (m_iconst (m_bin (m_puti (m_aload (m_aload (m_geti (m_iconst (m_bin (m_xgo hi)))))))))))))))))))))))
theorem mobz_1147 : xBm bz_1147 := fun dl fs i1 i2 fin hi => (m_iload (m_iconst (m_if2 (m_xgo hi) (m_aload (m_geti (m_if1 (m_xgo hi) (m_aload (m_geti (m_if1 (m_xgo hi) (m_aload (m_dup (m_geti (m_iconst (m_bin (m_puti (m_aload (m_aload (m_geti (m_iconst (m_bin (m_callv hi)))))))))))))))))))))
theorem mobz_1148 : xBm bz_1148 := fun dl fs i1 i2 fin hi => (m_iinc (m_xgo hi))
theorem mobz_1149 : xBm bz_1149 := fun dl fs i1 i2 fin hi => (m_iload (m_iret hi))
theorem mobz_1150 : xBm bz_1150 := fun dl fs i1 i2 fin hi => (m_aload (m_getr (m_getr (m_aload (m_iload (m_iload (m_callv hi)))))))
theorem mobz_1151 : xBm bz_1151 := fun dl fs i1 i2 fin hi => (m_ald (m_istore (m_iload (m_iconst (m_if2 (m_xgo hi) (m_iload (m_iconst (m_if2 (m_xgo hi) (m_iconst (m_xgo hi))))))))))
theorem mobz_1152 : xBm bz_1152 := fun dl fs i1 i2 fin hi => (m_iconst (m_zret hi))
theorem mobz_1153 : xBm bz_1153 := fun dl fs i1 i2 fin hi => (m_zret hi)
theorem mobz_1154 : xBm bz_1154 := fun dl fs i1 i2 fin hi => (m_iload (m_istore (m_iload (m_iload (m_bin (m_iload (m_bin (m_iload (m_bin (m_iconst (m_if2 (m_xgo hi) m_no)))))))))))
theorem mobz_1155 : xBm bz_1155 := fun dl fs i1 i2 fin hi => (m_iload (m_istore (m_iload (m_iload (m_if2 (m_xgo hi) (m_aload (m_getr (m_iload (m_ald (m_iload (m_if2 (m_xgo hi) (m_aload (m_getr (m_iload (m_aload (m_getr (m_iload (m_ald (m_ast (m_iinc (m_xgo hi)))))))))))))))))))))
theorem mobz_1156 : xBm bz_1156 := fun dl fs i1 i2 fin hi => (m_iload (m_iload (m_if2 (m_xgo hi) (m_aload (m_getr (m_iload (m_ald (m_iload (m_if2 (m_xgo hi) (m_aload (m_getr (m_iload (m_aload (m_getr (m_iload (m_ald (m_ast (m_iinc (m_xgo hi)))))))))))))))))))
theorem mobz_1157 : xBm bz_1157 := fun dl fs i1 i2 fin hi => (m_aload (m_getr (m_getr (m_iload (m_ald (m_istore (m_iconst (m_istore (m_xgo hi)))))))))
theorem mobz_1158 : xBm bz_1158 := fun dl fs i1 i2 fin hi => (m_iload (m_iload (m_if2 (m_xgo hi) (m_iload (m_if1 (m_xgo hi) (m_aload (m_getr (m_iload (m_iload (m_ast (m_iinc (m_aload (m_getr (m_getr (m_iload (m_ald (m_istore (m_iinc (m_xgo hi)))))))))))))))))))
theorem mobz_1159 : xBm bz_1159 := fun dl fs i1 i2 fin hi => (m_iinc (m_xgo hi))
theorem mobz_1160 : xBm bz_1160 := fun dl fs i1 i2 fin hi => (m_iload (m_iret hi))
theorem mobz_1161 : xBm bz_1161 := fun dl fs i1 i2 fin hi => (m_iconst (m_istore (m_iload (m_istore (m_iload (m_if1 (m_xgo hi) (m_iload (m_iconst (m_if2 (m_xgo hi) (m_aload (m_getr (m_iload (m_aload (m_getr (m_getr (m_iload (m_ald (m_ast (m_iinc (m_aload (m_getr (m_getr (m_xgo hi)))))))))))))))))))))))
theorem mobz_1162 : xBm bz_1162 := fun dl fs i1 i2 fin hi => (m_iload (m_if1 (m_xgo hi) (m_iload (m_iconst (m_if2 (m_xgo hi) (m_aload (m_getr (m_iload (m_aload (m_getr (m_getr (m_iload (m_ald (m_ast (m_iinc (m_aload (m_getr (m_getr (m_iload (m_ald (m_istore (m_xgo hi))))))))))))))))))))))
theorem mobz_1163 : xBm bz_1163 := fun dl fs i1 i2 fin hi => (m_aload (m_getr (m_iload (m_iconst (m_bin (m_ald (m_istore (m_aload (m_getr (m_getr (m_iload (m_ald (m_iconst (m_if2 (m_xgo hi) m_no))))))))))))))
theorem mobz_1164 : xBm bz_1164 := fun dl fs i1 i2 fin hi => (m_aload (m_getr (m_getr (m_iload (m_ald (m_istore (m_iload (m_if1 (m_xgo hi) (m_iinc (m_iconst (m_istore (m_xgo hi))))))))))))
theorem mobz_1165 : xBm bz_1165 := fun dl fs i1 i2 fin hi => (m_iload (m_if1 (m_xgo hi) (m_iinc (m_iconst (m_istore (m_iload (m_aload (m_getr (m_iload (m_ald (m_if2 (m_xgo hi) (m_aload (m_getr (m_getr (m_iload (m_ald (m_istore (m_iinc (m_xgo hi)))))))))))))))))))
theorem mobz_1166 : xBm bz_1166 := fun dl fs i1 i2 fin hi => (m_iload (m_aload (m_getr (m_iload (m_ald (m_if2 (m_xgo hi) (m_aload (m_getr (m_getr (m_iload (m_ald (m_istore (m_iinc (m_xgo hi))))))))))))))
theorem mobz_1167 : xBm bz_1167 := fun dl fs i1 i2 fin hi => (m_aload (m_getr (m_getr (m_iload (m_ald (m_iconst (m_if2 (m_xgo hi) m_no)))))))
theorem mobz_1168 : xBm bz_1168 := fun dl fs i1 i2 fin hi => (m_iload (m_if1 (m_xgo hi) (m_aload (m_getr (m_getr (m_iload (m_ald (m_istore (m_xgo hi)))))))))
theorem mobz_1169 : xBm bz_1169 := fun dl fs i1 i2 fin hi => (m_iload (m_iret hi))
theorem mobz_1170 : xBm bz_1170 := fun dl fs i1 i2 fin hi => (m_iconst (m_istore (m_iload (m_if1 (m_xgo hi) (m_aload (m_geti (m_xgo hi)))))))
theorem mobz_1171 : xBm bz_1171 := fun dl fs i1 i2 fin hi => (m_aload (m_getr (m_getr (m_iload (m_ald (m_istore (m_iload (m_if1 (m_xgo hi) (m_aload (m_getr (m_getr (m_iload (m_ald (m_iload (m_if2 (m_xgo hi) (m_iload (m_iret hi)))))))))))))))))
theorem mobz_1172 : xBm bz_1172 := fun dl fs i1 i2 fin hi => (m_istore (m_iload (m_if1 (m_xgo hi) (m_aload (m_getr (m_getr (m_iload (m_ald (m_iload (m_if2 (m_xgo hi) (m_iload (m_iret hi))))))))))))
theorem mobz_1173 : xBm bz_1173 := fun dl fs i1 i2 fin hi => (m_iload (m_if1 (m_xgo hi) (m_aload (m_getr (m_getr (m_iload (m_ald (m_iload (m_if2 (m_xgo hi) (m_iload (m_iret hi)))))))))))
theorem mobz_1174 : xBm bz_1174 := fun dl fs i1 i2 fin hi => (m_iload (m_istore (m_aload (m_getr (m_getr (m_iload (m_ald (m_istore (m_xgo hi)))))))))
theorem mobz_1175 : xBm bz_1175 := fun dl fs i1 i2 fin hi => (m_aload (m_getr (m_iconst (m_iconst (m_iload (m_iload (m_callv hi)))))))
theorem mobz_1176 : xBm bz_1176 := fun dl fs i1 i2 fin hi => (m_istore (m_iload (m_if1 (m_xgo hi) (m_aload (m_getr (m_getr (m_iload (m_iload (m_ast (m_xgo hi))))))))))
theorem mobz_1177 : xBm bz_1177 := fun dl fs i1 i2 fin hi => (m_iload (m_if1 (m_xgo hi) (m_aload (m_getr (m_getr (m_iload (m_iload (m_ast (m_xgo hi)))))))))
theorem mobz_1178 : xBm bz_1178 := fun dl fs i1 i2 fin hi => (m_aload (m_iload (m_puti (m_iload (m_iret hi)))))
theorem mobz_1179 : xBm bz_1179 := fun dl fs i1 i2 fin hi => (m_iload (m_iret hi))
theorem mobz_1180 : xBm bz_1180 := fun dl fs i1 i2 fin hi => (m_iconst (m_istore (m_aload (m_getr (m_getr (m_iload (m_ald (m_if1 (m_xgo hi) (m_aload (m_getr (m_iconst (m_iconst (m_aload (m_getr (m_getr (m_iload (m_ald (m_bin (m_ast (m_iconst (m_istore (m_xgo hi))))))))))))))))))))))
theorem mobz_1181 : xBm bz_1181 := fun dl fs i1 i2 fin hi => (m_iconst (m_istore (m_iload (m_iconst (m_if2 (m_xgo hi) (m_iload (m_if1 (m_xgo hi) (m_aload (m_callv hi)))))))))
theorem mobz_1182 : xBm bz_1182 := fun dl fs i1 i2 fin hi => (m_iload (m_iconst (m_if2 (m_xgo hi) (m_iload (m_if1 (m_xgo hi) (m_aload (m_callv hi)))))))
theorem mobz_1183 : xBm bz_1183 := fun dl fs i1 i2 fin hi => (m_if1 (m_xgo hi) (m_iinc (m_aload (m_getr (m_iload (m_ald (m_istore (m_iload (m_if1 (m_xgo hi) (m_aload (m_iload (m_un (m_callv hi)))))))))))))
theorem mobz_1184 : xBm bz_1184 := fun dl fs i1 i2 fin hi => (m_xgo hi)
theorem mobz_1185 : xBm bz_1185 := fun dl fs i1 i2 fin hi => (m_iload (m_iconst (m_divr (m_istore (m_iload (m_iconst (m_divr (m_iconst (m_if2 (m_xgo hi) (m_aload (m_aload (m_getr (m_getr (m_aload (m_getr (m_getr (m_iload (m_ald (m_ald (m_callv hi))))))))))))))))))))
theorem mobz_1186 : xBm bz_1186 := fun dl fs i1 i2 fin hi => (m_aload (m_iconst (m_callv hi)))
theorem mobz_1187 : xBm bz_1187 := fun dl fs i1 i2 fin hi => (m_xgo hi)
theorem mobz_1188 : xBm bz_1188 := fun dl fs i1 i2 fin hi => (m_iload (m_iconst (m_divr (m_iconst (m_if2 (m_xgo hi) m_no)))))
theorem mobz_1189 : xBm bz_1189 := fun dl fs i1 i2 fin hi => (m_aload (m_getr (m_getr (m_iload (m_ald (m_iconst (m_if2 (m_xgo hi) (m_aload (m_iconst (m_callv hi))))))))))
theorem mobz_1190 : xBm bz_1190 := fun dl fs i1 i2 fin hi => (m_aload (m_aload (m_getr (m_getr (m_iload (m_ald (m_i2l (m_callvL hi))))))))
theorem mobz_1191 : xBm bz_1191 := fun dl fs i1 i2 fin hi => (m_xgo hi)
theorem mobz_1192 : xBm bz_1192 := fun dl fs i1 i2 fin hi => (m_aload (m_iload (m_iload (m_aload (m_callv hi)))))
theorem mobz_1193 : xBm bz_1193 := fun dl fs i1 i2 fin hi => (m_istore (m_iinc (m_xgo hi)))
theorem mobz_1194 : xBm bz_1194 := fun dl fs i1 i2 fin hi => (m_iinc (m_xgo hi))
theorem mobz_1195 : xBm bz_1195 := fun dl fs i1 i2 fin hi => (m_ret hi)
theorem mobz_1196 : xBm bz_1196 := fun dl fs i1 i2 fin hi => (m_aload (m_getr (m_getr (m_iload (m_ald (m_istore (m_aload (m_getr (m_getr (m_iload (m_ald (m_iconst (m_if2 (m_xgo hi) (m_iconst (m_xgo hi)))))))))))))))
theorem mobz_1197 : xBm bz_1197 := fun dl fs i1 i2 fin hi => (m_iconst (m_istore (m_iload (m_iconst (m_iload (m_bin (m_bin (m_iconst (m_if2 (m_xgo hi) m_no)))))))))
theorem mobz_1198 : xBm bz_1198 := fun dl fs i1 i2 fin hi => (m_istore (m_iload (m_iconst (m_iload (m_bin (m_bin (m_iconst (m_if2 (m_xgo hi) m_no))))))))
theorem mobz_1199 : xBm bz_1199 := fun dl fs i1 i2 fin hi => (m_iload (m_if1 (m_xgo hi) (m_aload (m_aload (m_getr (m_getr (m_iload (m_ald (m_aload (m_callv hi))))))))))
theorem mobz_1200 : xBm bz_1200 := fun dl fs i1 i2 fin hi => (m_aload (m_iload (m_if1 (m_xgo hi) (m_iconst (m_xgo hi)))))
theorem mobz_1201 : xBm bz_1201 := fun dl fs i1 i2 fin hi => (m_iconst (m_callv hi))
theorem mobz_1202 : xBm bz_1202 := fun dl fs i1 i2 fin hi => (m_callv hi)
theorem mobz_1203 : xBm bz_1203 := fun dl fs i1 i2 fin hi => (m_iload (m_iconst (m_iload (m_bin (m_bin (m_istore (m_aload (m_getr (m_iload (m_iload (m_if1 (m_xgo hi) (m_iconst (m_xgo hi)))))))))))))
theorem mobz_1204 : xBm bz_1204 := fun dl fs i1 i2 fin hi => (m_iconst (m_ast (m_iload (m_if1 (m_xgo hi) (m_iconst (m_xgo hi))))))
theorem mobz_1205 : xBm bz_1205 := fun dl fs i1 i2 fin hi => (m_ast (m_iload (m_if1 (m_xgo hi) (m_iconst (m_xgo hi)))))
theorem mobz_1206 : xBm bz_1206 := fun dl fs i1 i2 fin hi => (m_aload (m_getr (m_getr (m_iload (m_ald (m_iconst (m_if2 m_no (m_iconst (m_xgo hi)))))))))
theorem mobz_1207 : xBm bz_1207 := fun dl fs i1 i2 fin hi => (m_istore (m_iload (m_iconst (m_bin (m_istore (m_aload (m_getr (m_getr (m_iload (m_ald (m_istore (m_xgo hi))))))))))))
theorem mobz_1208 : xBm bz_1208 := fun dl fs i1 i2 fin hi => (m_iload (m_if1 (m_xgo hi) (m_iload (m_iload (m_if2 (m_xgo hi) (m_aload (m_getr (m_iload (m_iconst (m_iload (m_bin (m_iload (m_bin (m_ast (m_aload (m_getr (m_iload (m_iconst (m_bin (m_iload (m_iconst (m_bin (m_xgo hi)))))))))))))))))))))))
theorem mobz_1209 : xBm bz_1209 := fun dl fs i1 i2 fin hi => (m_iconst (m_ast (m_iinc (m_aload (m_getr (m_getr (m_iload (m_ald (m_istore (m_xgo hi))))))))))
theorem mobz_1210 : xBm bz_1210 := fun dl fs i1 i2 fin hi => (m_ast (m_iinc (m_aload (m_getr (m_getr (m_iload (m_ald (m_istore (m_xgo hi)))))))))
theorem mobz_1211 : xBm bz_1211 := fun dl fs i1 i2 fin hi => (m_iload (m_iret hi))
theorem mobz_1212 : xBm bz_1212 := fun dl fs i1 i2 fin hi => (m_iconst (m_istore (m_iload (m_istore (m_iload (m_if1 (m_xgo hi) (m_iload (m_iconst (m_if2 (m_xgo hi) (m_aload (m_getr (m_iload (m_aload (m_getr (m_getr (m_iload (m_ald (m_ast (m_iinc (m_aload (m_getr (m_getr (m_xgo hi)))))))))))))))))))))))
theorem mobz_1213 : xBm bz_1213 := fun dl fs i1 i2 fin hi => (m_iload (m_if1 (m_xgo hi) (m_iload (m_iconst (m_if2 (m_xgo hi) (m_aload (m_getr (m_iload (m_aload (m_getr (m_getr (m_iload (m_ald (m_ast (m_iinc (m_aload (m_getr (m_getr (m_iload (m_ald (m_istore (m_xgo hi))))))))))))))))))))))
theorem mobz_1214 : xBm bz_1214 := fun dl fs i1 i2 fin hi => (m_iload (m_iconst (m_bin (m_istore (m_iload (m_if1 (m_xgo hi) (m_aload (m_aload (m_getr (m_iload (m_ald (m_i2l (m_callvL hi)))))))))))))
theorem mobz_1215 : xBm bz_1215 := fun dl fs i1 i2 fin hi => (m_iload (m_if1 (m_xgo hi) (m_aload (m_aload (m_getr (m_iload (m_ald (m_i2l (m_callvL hi)))))))))
theorem mobz_1216 : xBm bz_1216 := fun dl fs i1 i2 fin hi => (m_iload (m_if1 (m_xgo hi) m_no))
theorem mobz_1217 : xBm bz_1217 := fun dl fs i1 i2 fin hi => (m_iinc (m_xgo hi))
theorem mobz_1218 : xBm bz_1218 := fun dl fs i1 i2 fin hi => (m_ret hi)
theorem mobz_1219 : xBm bz_1219 := fun dl fs i1 i2 fin hi => (m_iconst (m_istore (m_iload (m_istore (m_iload (m_iload (m_if2 (m_xgo hi) (m_aload (m_aload (m_getr (m_iload (m_ald (m_iload (m_callv hi))))))))))))))
theorem mobz_1220 : xBm bz_1220 := fun dl fs i1 i2 fin hi => (m_iload (m_iload (m_if2 (m_xgo hi) (m_aload (m_aload (m_getr (m_iload (m_ald (m_iload (m_callv hi))))))))))
theorem mobz_1221 : xBm bz_1221 := fun dl fs i1 i2 fin hi => (m_istore (m_aload (m_getr (m_getr (m_iload (m_ald (m_iconst (m_if2 (m_xgo hi) m_no))))))))
theorem mobz_1222 : xBm bz_1222 := fun dl fs i1 i2 fin hi => (m_iconst (m_istore (m_aload (m_getr (m_iload (m_aload (m_getr (m_getr (m_iload (m_ald (m_ast (m_aload (m_getr (m_iload (m_aload (m_getr (m_iload (m_ald (m_ast (m_iload (m_istore (m_iload (m_xgo hi)))))))))))))))))))))))
theorem mobz_1223 : xBm bz_1223 := fun dl fs i1 i2 fin hi => (m_iinc (m_xgo hi))
theorem mobz_1224 : xBm bz_1224 := fun dl fs i1 i2 fin hi => (m_iload (m_zret hi))
theorem mobz_1225 : xBm bz_1225 := fun dl fs i1 i2 fin hi => (m_iconst (m_istore (m_iload (m_istore (m_iload (m_iload (m_if2 (m_xgo hi) (m_aload (m_getr (m_iload (m_ald (m_iload (m_if2 (m_xgo hi) (m_iload (m_aload (m_getr (m_iload (m_ald (m_mmin (m_istore (m_xgo hi)))))))))))))))))))))
theorem mobz_1226 : xBm bz_1226 := fun dl fs i1 i2 fin hi => (m_iload (m_iload (m_if2 (m_xgo hi) (m_aload (m_getr (m_iload (m_ald (m_iload (m_if2 (m_xgo hi) (m_iload (m_aload (m_getr (m_iload (m_ald (m_mmin (m_istore (m_xgo hi)))))))))))))))))
theorem mobz_1227 : xBm bz_1227 := fun dl fs i1 i2 fin hi => (m_iinc (m_xgo hi))
theorem mobz_1228 : xBm bz_1228 := fun dl fs i1 i2 fin hi => (m_iload (m_iret hi))
theorem mobz_1229 : xBm bz_1229 := fun dl fs i1 i2 fin hi => (m_iconst (m_istore (m_aload (m_getr (m_iconst (m_iload (m_ast (m_aload (m_getr (m_iconst (m_iload (m_ast (m_iconst (m_istore (m_xgo hi)))))))))))))))
theorem mobz_1230 : xBm bz_1230 := fun dl fs i1 i2 fin hi => (m_iload (m_iconst (m_if2 (m_xgo hi) (m_iload (m_if1 (m_xgo hi) (m_iinc (m_aload (m_getr (m_iload (m_ald (m_istore (m_aload (m_getr (m_iload (m_ald (m_istore (m_aload (m_getr (m_getr (m_iload (m_ald (m_istore (m_xgo hi)))))))))))))))))))))))
theorem mobz_1231 : xBm bz_1231 := fun dl fs i1 i2 fin hi => (m_xgo hi)
theorem mobz_1232 : xBm bz_1232 := fun dl fs i1 i2 fin hi => (m_iload (m_iconst (m_if2 (m_xgo hi) m_no)))
theorem mobz_1233 : xBm bz_1233 := fun dl fs i1 i2 fin hi => (m_iload (m_iconst (m_if2 (m_xgo hi) (m_iload (m_iconst (m_if2 (m_xgo hi) (m_iload (m_if1 (m_xgo hi) m_no))))))))
theorem mobz_1234 : xBm bz_1234 := fun dl fs i1 i2 fin hi => (m_aload (m_iload (m_iload (m_iload (m_callv hi)))))
theorem mobz_1235 : xBm bz_1235 := fun dl fs i1 i2 fin hi => (m_istore (m_iinc (m_xgo hi)))
theorem mobz_1236 : xBm bz_1236 := fun dl fs i1 i2 fin hi => (m_iinc (m_xgo hi))
theorem mobz_1237 : xBm bz_1237 := fun dl fs i1 i2 fin hi => (m_ret hi)
theorem mobz_1238 : xBm bz_1238 := fun dl fs i1 i2 fin hi => (m_aload (m_getr (m_getr (m_iload (m_ald (m_iconst (m_if2 m_no (m_aload (m_getr (m_getr (m_iload (m_ald (m_xgo hi)))))))))))))
theorem mobz_1239 : xBm bz_1239 := fun dl fs i1 i2 fin hi => (m_istore (m_iload (m_iload (m_bin (m_iconst (m_if2 (m_xgo hi) m_no))))))
theorem mobz_1240 : xBm bz_1240 := fun dl fs i1 i2 fin hi => (m_aload (m_getr (m_getr (m_iload (m_ald (m_istore (m_iconst (m_istore (m_xgo hi)))))))))
theorem mobz_1241 : xBm bz_1241 := fun dl fs i1 i2 fin hi => (m_iload (m_iload (m_if2 (m_xgo hi) (m_aload (m_getr (m_iload (m_iload (m_bin (m_iload (m_bin (m_iload (m_ast (m_aload (m_getr (m_iload (m_iload (m_bin (m_iload (m_bin (m_aload (m_iload (m_iload (m_xgo hi)))))))))))))))))))))))
theorem mobz_1242 : xBm bz_1242 := fun dl fs i1 i2 fin hi => (m_ast (m_aload (m_getr (m_getr (m_iload (m_ald (m_istore (m_iinc (m_xgo hi)))))))))
theorem mobz_1243 : xBm bz_1243 := fun dl fs i1 i2 fin hi => (m_iload (m_iload (m_bin (m_iret hi))))
theorem mobz_1244 : xBm bz_1244 := fun dl fs i1 i2 fin hi => (m_aload (m_obj (m_aload (m_iconst (m_newa (m_putr (m_aload (m_iconst (m_newa (m_putr (m_aload (m_iconst (m_newa (m_putr (m_aload (m_iconst (m_newa (m_putr (m_aload (m_iconst (m_newa (m_putr (m_xgo hi)))))))))))))))))))))))
theorem mobz_1245 : xBm bz_1245 := fun dl fs i1 i2 fin hi => (m_istore (m_ret hi))
theorem mobz_1246 : xBm bz_1246 := fun dl fs i1 i2 fin hi => (m_aload (m_geti (m_if1 (m_xgo hi) (m_aload (m_callv hi)))))
theorem mobz_1247 : xBm bz_1247 := fun dl fs i1 i2 fin hi => (m_iconst (m_if2 (m_xgo hi) (m_aload (m_callv hi))))
theorem mobz_1248 : xBm bz_1248 := fun dl fs i1 i2 fin hi => (m_iret hi)
theorem mobz_1249 : xBm bz_1249 := fun dl fs i1 i2 fin hi => (m_aload (m_iconst (m_aload (m_geti (m_aload (m_getr (m_aload (m_geti (m_ald (m_callv hi))))))))))
theorem mobz_1250 : xBm bz_1250 := fun dl fs i1 i2 fin hi => (m_istore (m_iload (m_istore (m_aload (m_dup (m_geti (m_iconst (m_bin (m_puti (m_aload (m_iconst (m_callv hi))))))))))))
theorem mobz_1251 : xBm bz_1251 := fun dl fs i1 i2 fin hi => (m_if1 (m_xgo hi) m_no)
theorem mobz_1252 : xBm bz_1252 := fun dl fs i1 i2 fin hi => (m_iload (m_iret hi))
theorem mobz_1253 : xBm bz_1253 := fun dl fs i1 i2 fin hi => (m_aload (m_geti (m_istore (m_aload (m_geti (m_if1 (m_xgo hi) m_no))))))
theorem mobz_1254 : xBm bz_1254 := fun dl fs i1 i2 fin hi => (m_aload (m_callv hi))
theorem mobz_1255 : xBm bz_1255 := fun dl fs i1 i2 fin hi => (m_iconst (m_if2 (m_xgo hi) (m_aload (m_callv hi))))
theorem mobz_1256 : xBm bz_1256 := fun dl fs i1 i2 fin hi => (m_iconst (m_if2 (m_xgo hi) (m_aload (m_aload (m_callv hi)))))
theorem mobz_1257 : xBm bz_1257 := fun dl fs i1 i2 fin hi => (m_iconst (m_if2 (m_xgo hi) m_no))
theorem mobz_1258 : xBm bz_1258 := fun dl fs i1 i2 fin hi => (m_iconst (m_aload (m_geti (m_aload (m_getr (m_aload (m_geti (m_ald (m_callv hi)))))))))
theorem mobz_1259 : xBm bz_1259 := fun dl fs i1 i2 fin hi => (m_istore (m_aload (m_dup (m_geti (m_iconst (m_bin (m_puti (m_iload (m_iret hi)))))))))
theorem mobz_1260 : xBm bz_1260 := fun dl fs i1 i2 fin hi => (m_aload (m_callv hi))
theorem mobz_1261 : xBm bz_1261 := fun dl fs i1 i2 fin hi => (m_iconst (m_if2 (m_xgo hi) (m_aload (m_callv hi))))
theorem mobz_1262 : xBm bz_1262 := fun dl fs i1 i2 fin hi => (m_aload (m_iconst (m_iload (m_iconst (m_callv hi)))))
theorem mobz_1263 : xBm bz_1263 := fun dl fs i1 i2 fin hi => (m_istore (m_aload (m_getr (m_iload (m_aload (m_callv hi))))))
theorem mobz_1264 : xBm bz_1264 := fun dl fs i1 i2 fin hi => (m_ast (m_aload (m_iconst (m_callv hi))))
theorem mobz_1265 : xBm bz_1265 := fun dl fs i1 i2 fin hi => (m_iload (m_iret hi))
theorem mobz_1266 : xBm bz_1266 := fun dl fs i1 i2 fin hi => (m_aload (m_callv hi))
theorem mobz_1267 : xBm bz_1267 := fun dl fs i1 i2 fin hi => (m_iconst (m_if2 (m_xgo hi) m_no))
theorem mobz_1268 : xBm bz_1268 := fun dl fs i1 i2 fin hi => (m_aload (m_callv hi))
theorem mobz_1269 : xBm bz_1269 := fun dl fs i1 i2 fin hi => (m_aload (m_iconst (m_callv hi)))
theorem mobz_1270 : xBm bz_1270 := fun dl fs i1 i2 fin hi => (m_if1 (m_xgo hi) m_no)
theorem mobz_1271 : xBm bz_1271 := fun dl fs i1 i2 fin hi => (m_aload (m_callv hi))
theorem mobz_1272 : xBm bz_1272 := fun dl fs i1 i2 fin hi => (m_istore (m_aload (m_geti (m_if1 (m_xgo hi) (m_aload (m_callv hi))))))
theorem mobz_1273 : xBm bz_1273 := fun dl fs i1 i2 fin hi => (m_iconst (m_if2 (m_xgo hi) m_no))
theorem mobz_1274 : xBm bz_1274 := fun dl fs i1 i2 fin hi => (m_aload (m_iconst (m_callv hi)))
theorem mobz_1275 : xBm bz_1275 := fun dl fs i1 i2 fin hi => (m_aload (m_geti (m_if1 (m_xgo hi) (m_aload (m_getr (m_iload (m_ald (m_iconst (m_if2 (m_xgo hi) (m_aload (m_getr (m_iload (m_ald (m_iconst (m_if2 (m_xgo hi) (m_aload (m_getr (m_iload (m_iconst (m_ast (m_iload (m_iret hi))))))))))))))))))))))
theorem mobz_1276 : xBm bz_1276 := fun dl fs i1 i2 fin hi => (m_aload (m_getr (m_aload (m_geti (m_iload (m_ast (m_aload (m_getr (m_aload (m_geti (m_iload (m_ast (m_aload (m_getr (m_aload (m_geti (m_iload (m_ast (m_aload (m_getr (m_aload (m_geti (m_xgo hi)))))))))))))))))))))))
theorem mobz_1277 : xBm bz_1277 := fun dl fs i1 i2 fin hi => (m_aload (m_getr (m_aload (m_getr (m_iload (m_ald (m_ald (m_if1 (m_xgo hi) m_no))))))))
theorem mobz_1278 : xBm bz_1278 := fun dl fs i1 i2 fin hi => (m_aload (m_geti (m_istore (m_aload (m_aload (m_getr (m_iload (m_ald (m_aload (m_getr (m_iload (m_ald (m_callv hi)))))))))))))
theorem mobz_1279 : xBm bz_1279 := fun dl fs i1 i2 fin hi => (m_aload (m_getr (m_aload (m_getr (m_iload (m_ald (m_ald (m_if1 (m_xgo hi) (m_aload (m_getr (m_aload (m_getr (m_iload (m_ald (m_iload (m_ast (m_aload (m_getr (m_iload (m_ald (m_istore (m_xgo hi))))))))))))))))))))))
theorem mobz_1280 : xBm bz_1280 := fun dl fs i1 i2 fin hi => (m_iload (m_if1 (m_xgo hi) (m_aload (m_getr (m_iload (m_ald (m_iconst (m_if2 (m_xgo hi) m_no))))))))
theorem mobz_1281 : xBm bz_1281 := fun dl fs i1 i2 fin hi => (m_aload (m_getr (m_aload (m_getr (m_iload (m_ald (m_ald (m_if1 (m_xgo hi) m_no))))))))
theorem mobz_1282 : xBm bz_1282 := fun dl fs i1 i2 fin hi => (m_aload (m_getr (m_aload (m_getr (m_iload (m_ald (m_aload (m_geti (m_ast (m_aload (m_aload (m_getr (m_iload (m_ald (m_iload (m_iload (m_aload (m_iload (m_callv hi)))))))))))))))))))
theorem mobz_1283 : xBm bz_1283 := fun dl fs i1 i2 fin hi => (m_callv hi)
theorem mobz_1284 : xBm bz_1284 := fun dl fs i1 i2 fin hi => (m_aload (m_getr (m_iload (m_ald (m_istore (m_xgo hi))))))
theorem mobz_1285 : xBm bz_1285 := fun dl fs i1 i2 fin hi => (m_ret hi)
theorem mobz_1286 : xBm bz_1286 := fun dl fs i1 i2 fin hi => (m_aload (m_getr (m_aload (m_getr (m_iload (m_ald (m_ald (m_if1 (m_xgo hi) m_no))))))))
theorem mobz_1287 : xBm bz_1287 := fun dl fs i1 i2 fin hi => (m_aload (m_getr (m_aload (m_getr (m_iload (m_ald (m_aload (m_geti (m_ast (m_aload (m_getr (m_aload (m_geti (m_aload (m_getr (m_iload (m_ald (m_ast (m_aload (m_getr (m_aload (m_geti (m_xgo hi)))))))))))))))))))))))
theorem mobz_1288 : xBm bz_1288 := fun dl fs i1 i2 fin hi => (m_aload (m_getr (m_aload (m_geti (m_iload (m_ast (m_aload (m_getr (m_aload (m_geti (m_iload (m_ast (m_aload (m_getr (m_aload (m_geti (m_aload (m_geti (m_ast (m_aload (m_getr (m_aload (m_xgo hi)))))))))))))))))))))))
theorem mobz_1289 : xBm bz_1289 := fun dl fs i1 i2 fin hi => (m_iconst (m_istore (m_iload (m_aload (m_geti (m_if2 (m_xgo hi) (m_aload (m_getr (m_iload (m_ald (m_iconst (m_if2 (m_xgo hi) (m_aload (m_getr (m_aload (m_getr (m_iload (m_ald (m_ald (m_iconst (m_if2 (m_xgo hi) (m_aload (m_xgo hi)))))))))))))))))))))))
theorem mobz_1290 : xBm bz_1290 := fun dl fs i1 i2 fin hi => (m_iload (m_aload (m_geti (m_if2 (m_xgo hi) (m_aload (m_getr (m_iload (m_ald (m_iconst (m_if2 (m_xgo hi) (m_aload (m_getr (m_aload (m_getr (m_iload (m_ald (m_ald (m_iconst (m_if2 (m_xgo hi) (m_aload (m_getr (m_aload (m_xgo hi)))))))))))))))))))))))
theorem mobz_1291 : xBm bz_1291 := fun dl fs i1 i2 fin hi => (m_aload (m_iload (m_callv hi)))
theorem mobz_1292 : xBm bz_1292 := fun dl fs i1 i2 fin hi => (m_if1 (m_xgo hi) (m_aload (m_getr (m_aload (m_getr (m_iload (m_ald (m_iconst (m_ast (m_aload (m_getr (m_aload (m_getr (m_iload (m_ald (m_iconst (m_ast (m_xgo hi))))))))))))))))))
theorem mobz_1293 : xBm bz_1293 := fun dl fs i1 i2 fin hi => (m_iinc (m_xgo hi))
theorem mobz_1294 : xBm bz_1294 := fun dl fs i1 i2 fin hi => (m_ret hi)
theorem mobz_1295 : xBm bz_1295 := fun dl fs i1 i2 fin hi => (m_iload (m_istore (m_iload (m_aload (m_geti (m_if2 (m_xgo hi) (m_aload (m_getr (m_iload (m_aload (m_getr (m_iload (m_ald (m_if1 (m_xgo hi) (m_aload (m_aload (m_getr (m_iload (m_ald (m_callv hi))))))))))))))))))))
theorem mobz_1296 : xBm bz_1296 := fun dl fs i1 i2 fin hi => (m_iload (m_aload (m_geti (m_if2 (m_xgo hi) (m_aload (m_getr (m_iload (m_aload (m_getr (m_iload (m_ald (m_if1 (m_xgo hi) (m_aload (m_aload (m_getr (m_iload (m_ald (m_callv hi))))))))))))))))))
theorem mobz_1297 : xBm bz_1297 := fun dl fs i1 i2 fin hi => (m_xgo hi)
theorem mobz_1298 : xBm bz_1298 := fun dl fs i1 i2 fin hi => (m_iconst (m_aload (m_aload (m_getr (m_aload (m_getr (m_iload (m_ald (m_ald (m_callv hi))))))))))
theorem mobz_1299 : xBm bz_1299 := fun dl fs i1 i2 fin hi => (m_mmin (m_ast (m_iinc (m_xgo hi))))
theorem mobz_1300 : xBm bz_1300 := fun dl fs i1 i2 fin hi => (m_ast (m_iinc (m_xgo hi)))
theorem mobz_1301 : xBm bz_1301 := fun dl fs i1 i2 fin hi => (m_ret hi)
theorem mobz_1302 : xBm bz_1302 := fun dl fs i1 i2 fin hi => (m_iconst (m_istore (m_iload (m_istore (m_aload (m_getr (m_iload (m_ald (m_iconst (m_if2 (m_xgo hi) (m_aload (m_getr (m_iload (m_ald (m_iconst (m_if2 (m_xgo hi) (m_aload (m_getr (m_iload (m_ald (m_if1 (m_xgo hi) (m_iinc (m_xgo hi)))))))))))))))))))))))
theorem mobz_1303 : xBm bz_1303 := fun dl fs i1 i2 fin hi => (m_aload (m_getr (m_iload (m_ald (m_iconst (m_if2 (m_xgo hi) (m_aload (m_getr (m_iload (m_ald (m_iconst (m_if2 (m_xgo hi) (m_aload (m_getr (m_iload (m_ald (m_if1 (m_xgo hi) (m_iinc (m_aload (m_getr (m_aload (m_getr (m_xgo hi)))))))))))))))))))))))
theorem mobz_1304 : xBm bz_1304 := fun dl fs i1 i2 fin hi => (m_iload (m_iret hi))
theorem mobz_1305 : xBm bz_1305 := fun dl fs i1 i2 fin hi => (m_aload (m_geti (m_istore (m_aload (m_iconst (m_puti (m_aload (m_iload (m_if1 (m_xgo hi) (m_iload (m_iconst (m_if2 (m_xgo hi) (m_iload (m_iconst (m_if2 (m_xgo hi) (m_iload (m_iconst (m_if2 (m_xgo hi) (m_xgo hi)))))))))))))))))))
theorem mobz_1306 : xBm bz_1306 := fun dl fs i1 i2 fin hi => (m_iconst (m_xgo hi))
theorem mobz_1307 : xBm bz_1307 := fun dl fs i1 i2 fin hi => (m_iconst (m_puti (m_aload (m_geti (m_if1 (m_xgo hi) (m_iconst (m_iret hi)))))))
theorem mobz_1308 : xBm bz_1308 := fun dl fs i1 i2 fin hi => (m_puti (m_aload (m_geti (m_if1 (m_xgo hi) (m_iconst (m_iret hi))))))
theorem mobz_1309 : xBm bz_1309 := fun dl fs i1 i2 fin hi => (m_aload (m_aload (m_getr (m_aload (m_geti (m_iconst (m_aload (m_getr (m_iload (m_iconst (m_callv hi)))))))))))
theorem mobz_1310 : xBm bz_1310 := fun dl fs i1 i2 fin hi => (m_istore (m_iload (m_if1 m_no (m_aload (m_iload (m_puti (m_aload (m_geti (m_istore (m_aload (m_aload (m_getr (m_aload (m_geti (m_iconst (m_aload (m_getr (m_aload (m_geti (m_aload (m_geti (m_callv hi))))))))))))))))))))))
theorem mobz_1311 : xBm bz_1311 := fun dl fs i1 i2 fin hi => (m_istore (m_iconst (m_iload (m_bin (m_iret hi)))))
theorem mobz_1312 : xBm bz_1312 := fun dl fs i1 i2 fin hi => (m_aload (m_geti (m_istore (m_aload (m_geti (m_if1 (m_xgo hi) m_no))))))
theorem mobz_1313 : xBm bz_1313 := fun dl fs i1 i2 fin hi => (m_aload (m_iconst (m_callv hi)))
theorem mobz_1314 : xBm bz_1314 := fun dl fs i1 i2 fin hi => (m_if1 (m_xgo hi) (m_aload (m_iconst (m_iload (m_aload (m_getr (m_iload (m_ald (m_callv hi)))))))))
theorem mobz_1315 : xBm bz_1315 := fun dl fs i1 i2 fin hi => (m_iret hi)
theorem mobz_1316 : xBm bz_1316 := fun dl fs i1 i2 fin hi => (m_aload (m_iconst (m_callv hi)))
theorem mobz_1317 : xBm bz_1317 := fun dl fs i1 i2 fin hi => (m_if1 (m_xgo hi) (m_aload (m_iconst (m_iload (m_iconst (m_aload (m_getr (m_iload (m_ald (m_bin (m_callv hi)))))))))))
theorem mobz_1318 : xBm bz_1318 := fun dl fs i1 i2 fin hi => (m_iret hi)
theorem mobz_1319 : xBm bz_1319 := fun dl fs i1 i2 fin hi => (m_aload (m_iconst (m_callv hi)))
theorem mobz_1320 : xBm bz_1320 := fun dl fs i1 i2 fin hi => (m_if1 (m_xgo hi) m_no)
theorem mobz_1321 : xBm bz_1321 := fun dl fs i1 i2 fin hi => (m_aload (m_callv hi))
theorem mobz_1322 : xBm bz_1322 := fun dl fs i1 i2 fin hi => (m_iconst (m_if2 (m_xgo hi) (m_aload (m_callv hi))))
theorem mobz_1323 : xBm bz_1323 := fun dl fs i1 i2 fin hi => (m_iret hi)
theorem mobz_1324 : xBm bz_1324 := fun dl fs i1 i2 fin hi => (m_aload (m_callv hi))
theorem mobz_1325 : xBm bz_1325 := fun dl fs i1 i2 fin hi => (m_iconst (m_if2 (m_xgo hi) (m_aload (m_callv hi))))
theorem mobz_1326 : xBm bz_1326 := fun dl fs i1 i2 fin hi => (m_iret hi)
theorem mobz_1327 : xBm bz_1327 := fun dl fs i1 i2 fin hi => (m_aload (m_callv hi))
theorem mobz_1328 : xBm bz_1328 := fun dl fs i1 i2 fin hi => (m_aload (m_iconst (m_callv hi)))
theorem mobz_1329 : xBm bz_1329 := fun dl fs i1 i2 fin hi => (m_if1 (m_xgo hi) m_no)
theorem mobz_1330 : xBm bz_1330 := fun dl fs i1 i2 fin hi => (m_aload (m_geti (m_if1 (m_xgo hi) (m_aload (m_aload (m_geti (m_callv hi)))))))
theorem mobz_1331 : xBm bz_1331 := fun dl fs i1 i2 fin hi => (m_if1 (m_xgo hi) m_no)
theorem mobz_1332 : xBm bz_1332 := fun dl fs i1 i2 fin hi => (m_aload (m_geti (m_if1 (m_xgo hi) m_no)))
theorem mobz_1333 : xBm bz_1333 := fun dl fs i1 i2 fin hi => (m_aload (m_callv hi))
theorem mobz_1334 : xBm bz_1334 := fun dl fs i1 i2 fin hi => (m_if1 (m_xgo hi) m_no)
theorem mobz_1335 : xBm bz_1335 := fun dl fs i1 i2 fin hi => (m_aload (m_iconst (m_callv hi)))
theorem mobz_1336 : xBm bz_1336 := fun dl fs i1 i2 fin hi => (m_istore (m_aload (m_geti (m_if1 (m_xgo hi) (m_aload (m_callv hi))))))
theorem mobz_1337 : xBm bz_1337 := fun dl fs i1 i2 fin hi => (m_iconst (m_if2 (m_xgo hi) m_no))
theorem mobz_1338 : xBm bz_1338 := fun dl fs i1 i2 fin hi => (m_aload (m_iconst (m_callv hi)))
theorem mobz_1339 : xBm bz_1339 := fun dl fs i1 i2 fin hi => (m_iload (m_iret hi))
theorem mobz_1340 : xBm bz_1340 := fun dl fs i1 i2 fin hi => (m_aload (m_geti (m_if1 (m_xgo hi) (m_aload (m_callv hi)))))
theorem mobz_1341 : xBm bz_1341 := fun dl fs i1 i2 fin hi => (m_iconst (m_if2 (m_xgo hi) (m_aload (m_callv hi))))
theorem mobz_1342 : xBm bz_1342 := fun dl fs i1 i2 fin hi => (m_iret hi)
theorem mobz_1343 : xBm bz_1343 := fun dl fs i1 i2 fin hi => (m_aload (m_iconst (m_aload (m_geti (m_aload (m_getr (m_aload (m_geti (m_ald (m_callv hi))))))))))
theorem mobz_1344 : xBm bz_1344 := fun dl fs i1 i2 fin hi => (m_istore (m_aload (m_dup (m_geti (m_iconst (m_bin (m_puti (m_iconst (m_istore (m_aload (m_geti (m_if1 (m_xgo hi) (m_aload (m_callv hi))))))))))))))
theorem mobz_1345 : xBm bz_1345 := fun dl fs i1 i2 fin hi => (m_if1 (m_xgo hi) m_no)
theorem mobz_1346 : xBm bz_1346 := fun dl fs i1 i2 fin hi => (m_iload (m_iret hi))
theorem mobz_1347 : xBm bz_1347 := fun dl fs i1 i2 fin hi => (m_iload (m_istore (m_iload (m_if1 (m_xgo hi) (m_aload (m_getr (m_iload (m_ald (m_iconst (m_if2 (m_xgo hi) (m_aload (m_getr (m_iload (m_ald (m_istore (m_xgo hi))))))))))))))))
theorem mobz_1348 : xBm bz_1348 := fun dl fs i1 i2 fin hi => (m_iload (m_if1 (m_xgo hi) (m_aload (m_getr (m_iload (m_ald (m_iconst (m_if2 (m_xgo hi) (m_aload (m_getr (m_iload (m_ald (m_istore (m_xgo hi))))))))))))))
theorem mobz_1349 : xBm bz_1349 := fun dl fs i1 i2 fin hi => (m_iload (m_iret hi))
theorem mobz_1350 : xBm bz_1350 := fun dl fs i1 i2 fin hi => (m_aload (m_iconst (m_puti (m_aload (m_iconst (m_puti (m_aload (m_iconst (m_puti (m_aload (m_iconst (m_puti (m_aload (m_iconst (m_puti (m_aload (m_iconst (m_iconst (m_callv hi)))))))))))))))))))
theorem mobz_1351 : xBm bz_1351 := fun dl fs i1 i2 fin hi => (m_iconst (m_istore (m_iload (m_iconst (m_if2 (m_xgo hi) (m_aload (m_iconst (m_iload (m_iconst (m_if2 (m_xgo hi) (m_iconst (m_xgo hi))))))))))))
theorem mobz_1352 : xBm bz_1352 := fun dl fs i1 i2 fin hi => (m_iload (m_iconst (m_if2 (m_xgo hi) (m_aload (m_iconst (m_iload (m_iconst (m_if2 (m_xgo hi) (m_iconst (m_xgo hi))))))))))
theorem mobz_1353 : xBm bz_1353 := fun dl fs i1 i2 fin hi => (m_iload (m_iconst (m_if2 (m_xgo hi) (m_iconst (m_xgo hi)))))
theorem mobz_1354 : xBm bz_1354 := fun dl fs i1 i2 fin hi => (m_iload (m_iconst (m_if2 (m_xgo hi) (m_iconst (m_xgo hi)))))
theorem mobz_1355 : xBm bz_1355 := fun dl fs i1 i2 fin hi => (m_iconst (m_callv hi))
theorem mobz_1356 : xBm bz_1356 := fun dl fs i1 i2 fin hi => (m_callv hi)
theorem mobz_1357 : xBm bz_1357 := fun dl fs i1 i2 fin hi => (m_iinc (m_xgo hi))
theorem mobz_1358 : xBm bz_1358 := fun dl fs i1 i2 fin hi => (m_aload (m_iconst (m_iconst (m_iconst (m_iconst (m_callv hi))))))
theorem mobz_1359 : xBm bz_1359 := fun dl fs i1 i2 fin hi => (m_aload (m_iconst (m_iconst (m_iconst (m_iconst (m_callv hi))))))
theorem mobz_1360 : xBm bz_1360 := fun dl fs i1 i2 fin hi => (m_aload (m_iconst (m_iconst (m_iconst (m_iconst (m_callv hi))))))
theorem mobz_1361 : xBm bz_1361 := fun dl fs i1 i2 fin hi => (m_aload (m_iconst (m_iconst (m_iconst (m_iconst (m_callv hi))))))
theorem mobz_1362 : xBm bz_1362 := fun dl fs i1 i2 fin hi => (m_aload (m_iconst (m_iconst (m_iconst (m_iconst (m_callv hi))))))
theorem mobz_1363 : xBm bz_1363 := fun dl fs i1 i2 fin hi => (m_aload (m_getr (m_iconst (m_iconst (m_ast (m_aload (m_getr (m_iconst (m_iconst (m_ast (m_aload (m_getr (m_iconst (m_iconst (m_ast (m_aload (m_getr (m_iconst (m_iconst (m_ast (m_ret hi)))))))))))))))))))))
theorem mobz_1364 : xBm bz_1364 := fun dl fs i1 i2 fin hi => (m_iload (m_iconst (m_if2 (m_xgo hi) (m_iload (m_if1 (m_xgo hi) (m_iconst (m_xgo hi)))))))
theorem mobz_1365 : xBm bz_1365 := fun dl fs i1 i2 fin hi => (m_iconst (m_xgo hi))
theorem mobz_1366 : xBm bz_1366 := fun dl fs i1 i2 fin hi => (m_iload (m_iconst (m_if2 (m_xgo hi) (m_aload (m_getr (m_iload (m_ald (m_if1 (m_xgo hi) m_no))))))))
theorem mobz_1367 : xBm bz_1367 := fun dl fs i1 i2 fin hi => (m_iconst (m_zret hi))
theorem mobz_1368 : xBm bz_1368 := fun dl fs i1 i2 fin hi => (m_zret hi)
theorem mobz_1369 : xBm bz_1369 := fun dl fs i1 i2 fin hi => (m_aload (m_callv hi))
theorem mobz_1370 : xBm bz_1370 := fun dl fs i1 i2 fin hi => (m_iconst (m_if2 (m_xgo hi) (m_aload (m_callv hi))))
theorem mobz_1371 : xBm bz_1371 := fun dl fs i1 i2 fin hi => (m_iconst (m_if2 (m_xgo hi) (m_aload (m_callv hi))))
theorem mobz_1372 : xBm bz_1372 := fun dl fs i1 i2 fin hi => (m_iconst (m_if2 (m_xgo hi) (m_aload (m_callv hi))))
theorem mobz_1373 : xBm bz_1373 := fun dl fs i1 i2 fin hi => (m_iconst (m_if2 (m_xgo hi) (m_aload (m_callv hi))))
theorem mobz_1374 : xBm bz_1374 := fun dl fs i1 i2 fin hi => (m_iconst (m_if2 (m_xgo hi) (m_iconst (m_xgo hi))))
theorem mobz_1375 : xBm bz_1375 := fun dl fs i1 i2 fin hi => (m_iconst (m_xgo hi))
theorem mobz_1376 : xBm bz_1376 := fun dl fs i1 i2 fin hi => (m_iconst (m_zret hi))
theorem mobz_1377 : xBm bz_1377 := fun dl fs i1 i2 fin hi => (m_zret hi)
theorem mobz_1378 : xBm bz_1378 := fun dl fs i1 i2 fin hi => (m_aload (m_callv hi))
theorem mobz_1379 : xBm bz_1379 := fun dl fs i1 i2 fin hi => (m_iconst (m_if2 (m_xgo hi) (m_aload (m_callv hi))))
theorem mobz_1380 : xBm bz_1380 := fun dl fs i1 i2 fin hi => (m_iconst (m_if2 (m_xgo hi) (m_aload (m_aload (m_geti (m_callv hi))))))
theorem mobz_1381 : xBm bz_1381 := fun dl fs i1 i2 fin hi => (m_if1 (m_xgo hi) (m_iconst (m_xgo hi)))
theorem mobz_1382 : xBm bz_1382 := fun dl fs i1 i2 fin hi => (m_iconst (m_zret hi))
theorem mobz_1383 : xBm bz_1383 := fun dl fs i1 i2 fin hi => (m_zret hi)
theorem mobz_1384 : xBm bz_1384 := fun dl fs i1 i2 fin hi => (m_aload (m_callv hi))
theorem mobz_1385 : xBm bz_1385 := fun dl fs i1 i2 fin hi => (m_iconst (m_if2 (m_xgo hi) (m_aload (m_callv hi))))
theorem mobz_1386 : xBm bz_1386 := fun dl fs i1 i2 fin hi => (m_iconst (m_if2 (m_xgo hi) (m_aload (m_callv hi))))
theorem mobz_1387 : xBm bz_1387 := fun dl fs i1 i2 fin hi => (m_iconst (m_if2 (m_xgo hi) (m_aload (m_callv hi))))
theorem mobz_1388 : xBm bz_1388 := fun dl fs i1 i2 fin hi => (m_iconst (m_if2 (m_xgo hi) (m_aload (m_callv hi))))
theorem mobz_1389 : xBm bz_1389 := fun dl fs i1 i2 fin hi => (m_iconst (m_if2 (m_xgo hi) (m_aload (m_callv hi))))
theorem mobz_1390 : xBm bz_1390 := fun dl fs i1 i2 fin hi => (m_iconst (m_if2 (m_xgo hi) (m_iconst (m_xgo hi))))
theorem mobz_1391 : xBm bz_1391 := fun dl fs i1 i2 fin hi => (m_iconst (m_xgo hi))
theorem mobz_1392 : xBm bz_1392 := fun dl fs i1 i2 fin hi => (m_iconst (m_zret hi))
theorem mobz_1393 : xBm bz_1393 := fun dl fs i1 i2 fin hi => (m_zret hi)
theorem mobz_1394 : xBm bz_1394 := fun dl fs i1 i2 fin hi => (m_aload (m_callv hi))
theorem mobz_1395 : xBm bz_1395 := fun dl fs i1 i2 fin hi => (m_iconst (m_if2 (m_xgo hi) (m_aload (m_callv hi))))
theorem mobz_1396 : xBm bz_1396 := fun dl fs i1 i2 fin hi => (m_iconst (m_if2 (m_xgo hi) (m_aload (m_callv hi))))
theorem mobz_1397 : xBm bz_1397 := fun dl fs i1 i2 fin hi => (m_iconst (m_if2 (m_xgo hi) (m_aload (m_callv hi))))
theorem mobz_1398 : xBm bz_1398 := fun dl fs i1 i2 fin hi => (m_iconst (m_if2 (m_xgo hi) (m_aload (m_callv hi))))
theorem mobz_1399 : xBm bz_1399 := fun dl fs i1 i2 fin hi => (m_iconst (m_if2 (m_xgo hi) (m_iconst (m_xgo hi))))
theorem mobz_1400 : xBm bz_1400 := fun dl fs i1 i2 fin hi => (m_iconst (m_xgo hi))
theorem mobz_1401 : xBm bz_1401 := fun dl fs i1 i2 fin hi => (m_iconst (m_zret hi))
theorem mobz_1402 : xBm bz_1402 := fun dl fs i1 i2 fin hi => (m_zret hi)
theorem mobz_1403 : xBm bz_1403 := fun dl fs i1 i2 fin hi => (m_aload (m_callv hi))
theorem mobz_1404 : xBm bz_1404 := fun dl fs i1 i2 fin hi => (m_iconst (m_if2 m_no (m_aload (m_callv hi))))
theorem mobz_1405 : xBm bz_1405 := fun dl fs i1 i2 fin hi => (m_iconst (m_if2 m_no (m_aload (m_callv hi))))
theorem mobz_1406 : xBm bz_1406 := fun dl fs i1 i2 fin hi => (m_iconst (m_if2 m_no (m_aload (m_callv hi))))
theorem mobz_1407 : xBm bz_1407 := fun dl fs i1 i2 fin hi => (m_iconst (m_if2 (m_xgo hi) m_no))
theorem mobz_1408 : xBm bz_1408 := fun dl fs i1 i2 fin hi => (m_iconst (m_zret hi))
theorem mobz_1409 : xBm bz_1409 := fun dl fs i1 i2 fin hi => (m_iload (m_iconst (m_if2 (m_xgo hi) (m_aload (m_iload (m_if1 (m_xgo hi) (m_text (m_xgo hi))))))))
theorem mobz_1410 : xBm bz_1410 := fun dl fs i1 i2 fin hi => (m_text (m_callv hi))
theorem mobz_1411 : xBm bz_1411 := fun dl fs i1 i2 fin hi => (m_callv hi)
theorem mobz_1412 : xBm bz_1412 := fun dl fs i1 i2 fin hi => (m_xgo hi)
theorem mobz_1413 : xBm bz_1413 := fun dl fs i1 i2 fin hi => (m_iload (m_iconst (m_if2 (m_xgo hi) m_no)))
theorem mobz_1414 : xBm bz_1414 := fun dl fs i1 i2 fin hi => (m_iload (m_if1 (m_xgo hi) m_no))
theorem mobz_1415 : xBm bz_1415 := fun dl fs i1 i2 fin hi => (m_ret hi)
theorem mobz_1416 : xBm bz_1416 := fun dl fs i1 i2 fin hi => (m_iload (m_istore (m_iload (m_aload (m_geti (m_if2 (m_xgo hi) (m_aload (m_getr (m_iload (m_ald (m_iconst (m_if2 (m_xgo hi) (m_xgo hi)))))))))))))
theorem mobz_1417 : xBm bz_1417 := fun dl fs i1 i2 fin hi => (m_iload (m_aload (m_geti (m_if2 (m_xgo hi) (m_aload (m_getr (m_iload (m_ald (m_iconst (m_if2 (m_xgo hi) (m_xgo hi)))))))))))
theorem mobz_1418 : xBm bz_1418 := fun dl fs i1 i2 fin hi => (m_aload (m_iload (m_callv hi)))
theorem mobz_1419 : xBm bz_1419 := fun dl fs i1 i2 fin hi => (m_istore (m_aload (m_iconst (m_iload (m_callv hi)))))
theorem mobz_1420 : xBm bz_1420 := fun dl fs i1 i2 fin hi => (m_istore (m_aload (m_getr (m_iload (m_iconst (m_ast (m_aload (m_getr (m_iload (m_aload (m_getr (m_iload (m_ald (m_ast (m_aload (m_getr (m_iload (m_aload (m_getr (m_iload (m_ald (m_ast (m_xgo hi)))))))))))))))))))))))
theorem mobz_1421 : xBm bz_1421 := fun dl fs i1 i2 fin hi => (m_iinc (m_xgo hi))
theorem mobz_1422 : xBm bz_1422 := fun dl fs i1 i2 fin hi => (m_ret hi)
theorem mobz_1423 : xBm bz_1423 := fun dl fs i1 i2 fin hi => (m_aload (m_iconst (m_aload (m_getr (m_iload (m_ald (m_callv hi)))))))
theorem mobz_1424 : xBm bz_1424 := fun dl fs i1 i2 fin hi => (m_istore (m_aload (m_aload (m_getr (m_iload (m_ald (m_aload (m_getr (m_iload (m_ald (m_callv hi)))))))))))
theorem mobz_1425 : xBm bz_1425 := fun dl fs i1 i2 fin hi => (m_istore (m_aload (m_getr (m_iload (m_aload (m_getr (m_iload (m_ald (m_iconst (m_if2 (m_xgo hi) m_no))))))))))
theorem mobz_1426 : xBm bz_1426 := fun dl fs i1 i2 fin hi => (m_iconst (m_ast (m_iconst (m_istore (m_aload (m_getr (m_iload (m_ald (m_if1 (m_xgo hi) m_no)))))))))
theorem mobz_1427 : xBm bz_1427 := fun dl fs i1 i2 fin hi => (m_aload (m_getr (m_aload (m_getr (m_iload (m_ald (m_ald (m_istore (m_aload (m_getr (m_iload (m_ald (m_istore (m_xgo hi))))))))))))))
theorem mobz_1428 : xBm bz_1428 := fun dl fs i1 i2 fin hi => (m_iload (m_aload (m_getr (m_iload (m_ald (m_aload (m_getr (m_iload (m_ald (m_bin (m_if2 (m_xgo hi) (m_iconst (m_istore (m_iload (m_istore (m_xgo hi))))))))))))))))
theorem mobz_1429 : xBm bz_1429 := fun dl fs i1 i2 fin hi => (m_iload (m_iload (m_if2 (m_xgo hi) (m_iload (m_if1 (m_xgo hi) (m_aload (m_getr (m_aload (m_aload (m_getr (m_iload (m_ald (m_aload (m_getr (m_iload (m_ald (m_callv hi)))))))))))))))))
theorem mobz_1430 : xBm bz_1430 := fun dl fs i1 i2 fin hi => (m_ald (m_iload (m_if2 (m_xgo hi) (m_iconst (m_xgo hi)))))
theorem mobz_1431 : xBm bz_1431 := fun dl fs i1 i2 fin hi => (m_iconst (m_xgo hi))
theorem mobz_1432 : xBm bz_1432 := fun dl fs i1 i2 fin hi => (m_iconst (m_istore (m_iinc (m_xgo hi))))
theorem mobz_1433 : xBm bz_1433 := fun dl fs i1 i2 fin hi => (m_istore (m_iinc (m_xgo hi)))
theorem mobz_1434 : xBm bz_1434 := fun dl fs i1 i2 fin hi => (m_iload (m_if1 (m_xgo hi) (m_aload (m_iload (m_iload (m_iload (m_aload (m_getr (m_iload (m_ald (m_iload (m_iload (m_iload (m_iload (m_iload (m_callv hi))))))))))))))))
theorem mobz_1435 : xBm bz_1435 := fun dl fs i1 i2 fin hi => (m_istore (m_iinc (m_xgo hi)))
theorem mobz_1436 : xBm bz_1436 := fun dl fs i1 i2 fin hi => (m_iinc (m_xgo hi))
theorem mobz_1437 : xBm bz_1437 := fun dl fs i1 i2 fin hi => (m_iload (m_iret hi))
theorem mobz_1438 : xBm bz_1438 := fun dl fs i1 i2 fin hi => (m_iload (m_iload (m_if2 (m_xgo hi) (m_aload (m_getr (m_iload (m_ald (m_iret hi))))))))
theorem mobz_1439 : xBm bz_1439 := fun dl fs i1 i2 fin hi => (m_iload (m_istore (m_iload (m_iconst (m_bin (m_istore (m_iload (m_iload (m_if2 (m_xgo hi) (m_aload (m_aload (m_getr (m_iload (m_ald (m_callv hi)))))))))))))))
theorem mobz_1440 : xBm bz_1440 := fun dl fs i1 i2 fin hi => (m_iload (m_iload (m_if2 (m_xgo hi) (m_aload (m_aload (m_getr (m_iload (m_ald (m_callv hi)))))))))
theorem mobz_1441 : xBm bz_1441 := fun dl fs i1 i2 fin hi => (m_istore (m_aload (m_aload (m_getr (m_iload (m_ald (m_callv hi)))))))
theorem mobz_1442 : xBm bz_1442 := fun dl fs i1 i2 fin hi => (m_istore (m_iload (m_iload (m_if2 m_no (m_iload (m_iload (m_if2 (m_xgo hi) (m_aload (m_aload (m_getr (m_iload (m_ald (m_callv hi)))))))))))))
theorem mobz_1443 : xBm bz_1443 := fun dl fs i1 i2 fin hi => (m_iconst (m_if2 (m_xgo hi) m_no))
theorem mobz_1444 : xBm bz_1444 := fun dl fs i1 i2 fin hi => (m_iload (m_istore (m_iinc (m_xgo hi))))
theorem mobz_1445 : xBm bz_1445 := fun dl fs i1 i2 fin hi => (m_aload (m_iload (m_iload (m_callv hi))))
theorem mobz_1446 : xBm bz_1446 := fun dl fs i1 i2 fin hi => (m_istore (m_aload (m_iload (m_iconst (m_bin (m_iload (m_callv hi)))))))
theorem mobz_1447 : xBm bz_1447 := fun dl fs i1 i2 fin hi => (m_istore (m_aload (m_getr (m_iload (m_ald (m_istore (m_aload (m_getr (m_iload (m_aload (m_getr (m_iload (m_ald (m_iconst (m_if2 (m_xgo hi) (m_iconst (m_xgo hi)))))))))))))))))
theorem mobz_1448 : xBm bz_1448 := fun dl fs i1 i2 fin hi => (m_iconst (m_ast (m_aload (m_getr (m_iload (m_iconst (m_ast (m_aload (m_getr (m_iload (m_iload (m_ast (m_aload (m_getr (m_iload (m_iload (m_ast (m_aload (m_getr (m_iload (m_iconst (m_ast (m_xgo hi)))))))))))))))))))))))
theorem mobz_1449 : xBm bz_1449 := fun dl fs i1 i2 fin hi => (m_ast (m_aload (m_getr (m_iload (m_iconst (m_ast (m_aload (m_getr (m_iload (m_iload (m_ast (m_aload (m_getr (m_iload (m_iload (m_ast (m_aload (m_getr (m_iload (m_iconst (m_ast (m_iload (m_xgo hi)))))))))))))))))))))))
theorem mobz_1450 : xBm bz_1450 := fun dl fs i1 i2 fin hi => (m_aload (m_iload (m_if1 (m_xgo hi) (m_iload (m_aload (m_geti (m_if2 m_no (m_iconst (m_xgo hi)))))))))
theorem mobz_1451 : xBm bz_1451 := fun dl fs i1 i2 fin hi => (m_iconst (m_xgo hi))
theorem mobz_1452 : xBm bz_1452 := fun dl fs i1 i2 fin hi => (m_puti (m_aload (m_geti (m_if1 m_no (m_iconst (m_xgo hi))))))
theorem mobz_1453 : xBm bz_1453 := fun dl fs i1 i2 fin hi => (m_iret hi)
theorem mobz_1454 : xBm bz_1454 := fun dl fs i1 i2 fin hi => (m_aload (m_geti (m_istore (m_aload (m_geti (m_istore (m_iload (m_istore (m_xgo hi)))))))))
theorem mobz_1455 : xBm bz_1455 := fun dl fs i1 i2 fin hi => (m_iload (m_iload (m_if2 (m_xgo hi) (m_aload (m_getr (m_aload (m_aload (m_getr (m_iload (m_ald (m_aload (m_getr (m_iload (m_ald (m_callv hi)))))))))))))))
theorem mobz_1456 : xBm bz_1456 := fun dl fs i1 i2 fin hi => (m_ald (m_iload (m_if2 (m_xgo hi) (m_xgo hi))))
theorem mobz_1457 : xBm bz_1457 := fun dl fs i1 i2 fin hi => (m_aload (m_getr (m_aload (m_geti (m_aload (m_getr (m_iload (m_ald (m_ast (m_aload (m_dup (m_geti (m_iconst (m_bin (m_puti (m_xgo hi))))))))))))))))
theorem mobz_1458 : xBm bz_1458 := fun dl fs i1 i2 fin hi => (m_iinc (m_xgo hi))
theorem mobz_1459 : xBm bz_1459 := fun dl fs i1 i2 fin hi => (m_iload (m_istore (m_iload (m_iload (m_if2 (m_xgo hi) (m_iload (m_iload (m_if2 (m_xgo hi) (m_aload (m_getr (m_aload (m_geti (m_aload (m_getr (m_iload (m_ald (m_ast (m_aload (m_dup (m_geti (m_iconst (m_bin (m_xgo hi)))))))))))))))))))))))
theorem mobz_1460 : xBm bz_1460 := fun dl fs i1 i2 fin hi => (m_iload (m_iload (m_if2 (m_xgo hi) (m_iload (m_iload (m_if2 (m_xgo hi) (m_aload (m_getr (m_aload (m_geti (m_aload (m_getr (m_iload (m_ald (m_ast (m_aload (m_dup (m_geti (m_iconst (m_bin (m_puti (m_xgo hi))))))))))))))))))))))
theorem mobz_1461 : xBm bz_1461 := fun dl fs i1 i2 fin hi => (m_iconst (m_istore (m_iload (m_iload (m_if2 (m_xgo hi) (m_iload (m_iload (m_if2 (m_xgo hi) (m_aload (m_getr (m_aload (m_geti (m_aload (m_aload (m_getr (m_iload (m_ald (m_iload (m_callv hi)))))))))))))))))))
theorem mobz_1462 : xBm bz_1462 := fun dl fs i1 i2 fin hi => (m_iload (m_iload (m_if2 (m_xgo hi) (m_iload (m_iload (m_if2 (m_xgo hi) (m_aload (m_getr (m_aload (m_geti (m_aload (m_aload (m_getr (m_iload (m_ald (m_iload (m_callv hi)))))))))))))))))
theorem mobz_1463 : xBm bz_1463 := fun dl fs i1 i2 fin hi => (m_ast (m_aload (m_dup (m_geti (m_iconst (m_bin (m_puti (m_iinc (m_xgo hi)))))))))
theorem mobz_1464 : xBm bz_1464 := fun dl fs i1 i2 fin hi => (m_iinc (m_xgo hi))
theorem mobz_1465 : xBm bz_1465 := fun dl fs i1 i2 fin hi => (m_aload (m_iload (m_aload (m_geti (m_iload (m_aload (m_geti (m_callv hi))))))))
theorem mobz_1466 : xBm bz_1466 := fun dl fs i1 i2 fin hi => (m_istore (m_aload (m_iload (m_puti (m_aload (m_iload (m_puti (m_aload (m_getr (m_iload (m_iload (m_ast (m_iload (m_if1 (m_xgo hi) (m_aload (m_getr (m_iload (m_iload (m_ast (m_xgo hi))))))))))))))))))))
theorem mobz_1467 : xBm bz_1467 := fun dl fs i1 i2 fin hi => (m_aload (m_getr (m_iload (m_iload (m_ast (m_iload (m_iret hi)))))))
theorem mobz_1468 : xBm bz_1468 := fun dl fs i1 i2 fin hi => (m_iload (m_iret hi))
theorem mobz_1469 : xBm bz_1469 := fun dl fs i1 i2 fin hi => (m_iload (m_iconst (m_if2 (m_xgo hi) (m_aload (m_iconst (m_callv hi))))))
theorem mobz_1470 : xBm bz_1470 := fun dl fs i1 i2 fin hi => (m_xgo hi)
theorem mobz_1471 : xBm bz_1471 := fun dl fs i1 i2 fin hi => (m_iload (m_iconst (m_if2 (m_xgo hi) (m_iload (m_iconst (m_if2 (m_xgo hi) m_no))))))
theorem mobz_1472 : xBm bz_1472 := fun dl fs i1 i2 fin hi => (m_ret hi)
theorem mobz_1473 : xBm bz_1473 := fun dl fs i1 i2 fin hi => (m_iload (m_if1 (m_xgo hi) m_no))
theorem mobz_1474 : xBm bz_1474 := fun dl fs i1 i2 fin hi => (m_iload (m_iconst (m_if2 (m_xgo hi) m_no)))
theorem mobz_1475 : xBm bz_1475 := fun dl fs i1 i2 fin hi => (m_iload (m_iconst (m_if2 (m_xgo hi) m_no)))
theorem mobz_1476 : xBm bz_1476 := fun dl fs i1 i2 fin hi => (m_iload (m_iconst (m_if2 (m_xgo hi) (m_aload (m_text (m_callv hi))))))
theorem mobz_1477 : xBm bz_1477 := fun dl fs i1 i2 fin hi => (m_xgo hi)
theorem mobz_1478 : xBm bz_1478 := fun dl fs i1 i2 fin hi => (m_iload (m_iconst (m_if2 (m_xgo hi) (m_aload (m_iconst (m_callv hi))))))
theorem mobz_1479 : xBm bz_1479 := fun dl fs i1 i2 fin hi => (m_xgo hi)
theorem mobz_1480 : xBm bz_1480 := fun dl fs i1 i2 fin hi => (m_aload (m_aload (m_getr (m_iload (m_ald (m_callv hi))))))
theorem mobz_1481 : xBm bz_1481 := fun dl fs i1 i2 fin hi => (m_ret hi)
theorem mobz_1482 : xBm bz_1482 := fun dl fs i1 i2 fin hi => (m_iconst (m_istore (m_iload (m_istore (m_iload (m_if1 (m_xgo hi) (m_iload (m_aload (m_getr (m_iload (m_ald (m_iconst (m_if2 (m_xgo hi) (m_aload (m_getr (m_iload (m_ald (m_iconst (m_if2 (m_xgo hi) (m_xgo hi))))))))))))))))))))
theorem mobz_1483 : xBm bz_1483 := fun dl fs i1 i2 fin hi => (m_iload (m_if1 (m_xgo hi) (m_iload (m_aload (m_getr (m_iload (m_ald (m_iconst (m_if2 (m_xgo hi) (m_aload (m_getr (m_iload (m_ald (m_iconst (m_if2 (m_xgo hi) (m_xgo hi))))))))))))))))
theorem mobz_1484 : xBm bz_1484 := fun dl fs i1 i2 fin hi => (m_iconst (m_xgo hi))
theorem mobz_1485 : xBm bz_1485 := fun dl fs i1 i2 fin hi => (m_aload (m_getr (m_iload (m_ald (m_iconst (m_if2 (m_xgo hi) (m_iconst (m_aload (m_iload (m_callv hi))))))))))
theorem mobz_1486 : xBm bz_1486 := fun dl fs i1 i2 fin hi => (m_bin (m_xgo hi))
theorem mobz_1487 : xBm bz_1487 := fun dl fs i1 i2 fin hi => (m_iconst (m_bin (m_istore (m_aload (m_getr (m_iload (m_ald (m_istore (m_xgo hi)))))))))
theorem mobz_1488 : xBm bz_1488 := fun dl fs i1 i2 fin hi => (m_bin (m_istore (m_aload (m_getr (m_iload (m_ald (m_istore (m_iload (m_if1 (m_xgo hi) (m_aload (m_getr (m_iload (m_ald (m_if1 (m_xgo hi) (m_iload (m_aload (m_iload (m_callv hi))))))))))))))))))
theorem mobz_1489 : xBm bz_1489 := fun dl fs i1 i2 fin hi => (m_iload (m_if1 (m_xgo hi) (m_aload (m_getr (m_iload (m_ald (m_if1 (m_xgo hi) (m_iload (m_aload (m_iload (m_callv hi)))))))))))
theorem mobz_1490 : xBm bz_1490 := fun dl fs i1 i2 fin hi => (m_bin (m_istore (m_aload (m_getr (m_iload (m_ald (m_istore (m_xgo hi))))))))
theorem mobz_1491 : xBm bz_1491 := fun dl fs i1 i2 fin hi => (m_iload (m_istore (m_xgo hi)))
theorem mobz_1492 : xBm bz_1492 := fun dl fs i1 i2 fin hi => (m_iload (m_iret hi))
theorem mobz_1493 : xBm bz_1493 := fun dl fs i1 i2 fin hi => (m_aload (m_iconst (m_puti (m_aload (m_geti (m_if1 (m_xgo hi) m_no))))))
theorem mobz_1494 : xBm bz_1494 := fun dl fs i1 i2 fin hi => (m_iconst (m_istore (m_iload (m_tablen (And.intro (m_xgo hi) (And.intro (m_xgo hi) (And.intro (m_xgo hi) (And.intro (m_xgo hi) (And.intro (m_xgo hi) (And.intro (m_xgo hi) (And.intro (m_xgo hi) (And.intro (m_xgo hi) (And.intro (m_xgo hi) (And.intro (m_xgo hi) (And.intro (m_xgo hi) (And.intro (m_xgo hi) (And.intro (m_xgo hi) (And.intro (m_xgo hi) True.intro)))))))))))))) (m_xgo hi)))))
theorem mobz_1495 : xBm bz_1495 := fun dl fs i1 i2 fin hi => (m_aload (m_geti (m_iret hi)))
theorem mobz_1496 : xBm bz_1496 := fun dl fs i1 i2 fin hi => (m_aload (m_geti (m_iret hi)))
theorem mobz_1497 : xBm bz_1497 := fun dl fs i1 i2 fin hi => (m_aload (m_geti (m_iret hi)))
theorem mobz_1498 : xBm bz_1498 := fun dl fs i1 i2 fin hi => (m_aload (m_geti (m_if1 (m_xgo hi) m_no)))
theorem mobz_1499 : xBm bz_1499 := fun dl fs i1 i2 fin hi => (m_iconst (m_iret hi))
theorem mobz_1500 : xBm bz_1500 := fun dl fs i1 i2 fin hi => (m_aload (m_geti (m_if1 (m_xgo hi) m_no)))
theorem mobz_1501 : xBm bz_1501 := fun dl fs i1 i2 fin hi => (m_iconst (m_iret hi))
theorem mobz_1502 : xBm bz_1502 := fun dl fs i1 i2 fin hi => (m_aload (m_geti (m_if1 (m_xgo hi) m_no)))
theorem mobz_1503 : xBm bz_1503 := fun dl fs i1 i2 fin hi => (m_iconst (m_iret hi))
theorem mobz_1504 : xBm bz_1504 := fun dl fs i1 i2 fin hi => (m_aload (m_geti (m_if1 (m_xgo hi) m_no)))
theorem mobz_1505 : xBm bz_1505 := fun dl fs i1 i2 fin hi => (m_iconst (m_iret hi))
theorem mobz_1506 : xBm bz_1506 := fun dl fs i1 i2 fin hi => (m_aload (m_geti (m_if1 (m_xgo hi) m_no)))
theorem mobz_1507 : xBm bz_1507 := fun dl fs i1 i2 fin hi => (m_iconst (m_iret hi))
theorem mobz_1508 : xBm bz_1508 := fun dl fs i1 i2 fin hi => (m_aload (m_geti (m_if1 (m_xgo hi) m_no)))
theorem mobz_1509 : xBm bz_1509 := fun dl fs i1 i2 fin hi => (m_iconst (m_iret hi))
theorem mobz_1510 : xBm bz_1510 := fun dl fs i1 i2 fin hi => (m_iload (m_if1 (m_xgo hi) m_no))
theorem mobz_1511 : xBm bz_1511 := fun dl fs i1 i2 fin hi => (m_iconst (m_iret hi))
theorem mobz_1512 : xBm bz_1512 := fun dl fs i1 i2 fin hi => (m_iload (m_if1 (m_xgo hi) m_no))
theorem mobz_1513 : xBm bz_1513 := fun dl fs i1 i2 fin hi => (m_iconst (m_iret hi))
theorem mobz_1514 : xBm bz_1514 := fun dl fs i1 i2 fin hi => (m_iload (m_if1 (m_xgo hi) m_no))
theorem mobz_1515 : xBm bz_1515 := fun dl fs i1 i2 fin hi => (m_iconst (m_iret hi))
theorem mobz_1516 : xBm bz_1516 := fun dl fs i1 i2 fin hi => (m_iload (m_if1 (m_xgo hi) m_no))
theorem mobz_1517 : xBm bz_1517 := fun dl fs i1 i2 fin hi => (m_iconst (m_iret hi))
theorem mobz_1518 : xBm bz_1518 := fun dl fs i1 i2 fin hi => (m_aload (m_geti (m_if1 (m_xgo hi) m_no)))
theorem mobz_1519 : xBm bz_1519 := fun dl fs i1 i2 fin hi => (m_iconst (m_iret hi))
theorem mobz_1520 : xBm bz_1520 := fun dl fs i1 i2 fin hi => (m_iconst (m_iret hi))
theorem mobz_1521 : xBm bz_1521 := fun dl fs i1 i2 fin hi => (m_aload (m_geti (m_istore (m_iload (m_if1 (m_xgo hi) (m_aload (m_getr (m_iload (m_ald (m_iconst (m_if2 (m_xgo hi) (m_aload (m_getr (m_iload (m_ald (m_iconst (m_if2 (m_xgo hi) m_no)))))))))))))))))
theorem mobz_1522 : xBm bz_1522 := fun dl fs i1 i2 fin hi => (m_iload (m_if1 (m_xgo hi) (m_aload (m_getr (m_iload (m_ald (m_iconst (m_if2 (m_xgo hi) (m_aload (m_getr (m_iload (m_ald (m_iconst (m_if2 (m_xgo hi) m_no))))))))))))))
theorem mobz_1523 : xBm bz_1523 := fun dl fs i1 i2 fin hi => (m_aload (m_getr (m_iload (m_ald (m_iconst (m_if2 (m_xgo hi) (m_aload (m_getr (m_iload (m_ald (m_iconst (m_if2 (m_xgo hi) m_no))))))))))))
theorem mobz_1524 : xBm bz_1524 := fun dl fs i1 i2 fin hi => (m_aload (m_getr (m_iload (m_ald (m_istore (m_xgo hi))))))
theorem mobz_1525 : xBm bz_1525 := fun dl fs i1 i2 fin hi => (m_iload (m_istore (m_iload (m_aload (m_geti (m_if2 (m_xgo hi) (m_aload (m_getr (m_iload (m_ald (m_istore (m_aload (m_iload (m_callv hi))))))))))))))
theorem mobz_1526 : xBm bz_1526 := fun dl fs i1 i2 fin hi => (m_iload (m_aload (m_geti (m_if2 (m_xgo hi) (m_aload (m_getr (m_iload (m_ald (m_istore (m_aload (m_iload (m_callv hi))))))))))))
theorem mobz_1527 : xBm bz_1527 := fun dl fs i1 i2 fin hi => (m_istore (m_aload (m_getr (m_iload (m_ald (m_istore (m_iload (m_aload (m_getr (m_iload (m_ald (m_if2 m_no (m_iload (m_aload (m_aload (m_getr (m_aload (m_getr (m_iload (m_ald (m_ald (m_callv hi))))))))))))))))))))))
theorem mobz_1528 : xBm bz_1528 := fun dl fs i1 i2 fin hi => (m_if2 m_no (m_iload (m_iconst (m_if2 m_no (m_iload (m_aload (m_getr (m_iload (m_ald (m_bin (m_iconst (m_if2 (m_xgo hi) m_no))))))))))))
theorem mobz_1529 : xBm bz_1529 := fun dl fs i1 i2 fin hi => (m_aload (m_getr (m_aload (m_getr (m_iload (m_ald (m_ald (m_aload (m_getr (m_iload (m_ald (m_bin (m_aload (m_getr (m_aload (m_getr (m_iload (m_ald (m_ald (m_bin (m_iconst (m_if2 (m_xgo hi) m_no))))))))))))))))))))))
theorem mobz_1530 : xBm bz_1530 := fun dl fs i1 i2 fin hi => (m_iconst (m_istore (m_aload (m_getr (m_iload (m_ald (m_istore (m_iload (m_aload (m_getr (m_iload (m_ald (m_if2 (m_xgo hi) (m_iload (m_aload (m_iload (m_callv hi)))))))))))))))))
theorem mobz_1531 : xBm bz_1531 := fun dl fs i1 i2 fin hi => (m_iload (m_aload (m_getr (m_iload (m_ald (m_if2 (m_xgo hi) (m_iload (m_aload (m_iload (m_callv hi))))))))))
theorem mobz_1532 : xBm bz_1532 := fun dl fs i1 i2 fin hi => (m_bin (m_istore (m_aload (m_getr (m_iload (m_ald (m_istore (m_xgo hi))))))))
theorem mobz_1533 : xBm bz_1533 := fun dl fs i1 i2 fin hi => (m_iload (m_iconst (m_if2 (m_xgo hi) m_no)))
theorem mobz_1534 : xBm bz_1534 := fun dl fs i1 i2 fin hi => (m_iinc (m_xgo hi))
theorem mobz_1535 : xBm bz_1535 := fun dl fs i1 i2 fin hi => (m_iload (m_istore (m_iload (m_aload (m_geti (m_if2 (m_xgo hi) (m_aload (m_getr (m_iload (m_ald (m_look (And.intro (And.intro rfl (m_xgo hi)) (And.intro (And.intro rfl (m_xgo hi)) (And.intro (And.intro rfl (m_xgo hi)) (And.intro (And.intro rfl (m_xgo hi)) (And.intro (And.intro rfl m_no) (And.intro (And.intro rfl m_no) True.intro)))))) (m_xgo hi))))))))))))
theorem mobz_1536 : xBm bz_1536 := fun dl fs i1 i2 fin hi => (m_iload (m_aload (m_geti (m_if2 (m_xgo hi) (m_aload (m_getr (m_iload (m_ald (m_look (And.intro (And.intro rfl (m_xgo hi)) (And.intro (And.intro rfl (m_xgo hi)) (And.intro (And.intro rfl (m_xgo hi)) (And.intro (And.intro rfl (m_xgo hi)) (And.intro (And.intro rfl m_no) (And.intro (And.intro rfl m_no) True.intro)))))) (m_xgo hi))))))))))
theorem mobz_1537 : xBm bz_1537 := fun dl fs i1 i2 fin hi => (m_aload (m_iload (m_callv hi)))
theorem mobz_1538 : xBm bz_1538 := fun dl fs i1 i2 fin hi => (m_iconst (m_if2 m_no (m_aload (m_getr (m_iload (m_ald (m_iconst (m_if2 (m_xgo hi) m_no))))))))
theorem mobz_1539 : xBm bz_1539 := fun dl fs i1 i2 fin hi => (m_aload (m_iload (m_callv hi)))
theorem mobz_1540 : xBm bz_1540 := fun dl fs i1 i2 fin hi => (m_aload (m_getr (m_aload (m_getr (m_iload (m_ald (m_ald (m_if2 (m_xgo hi) m_no))))))))
theorem mobz_1541 : xBm bz_1541 := fun dl fs i1 i2 fin hi => (m_aload (m_getr (m_iload (m_ald (m_iconst (m_if2 (m_xgo hi) (m_aload (m_iload (m_callv hi)))))))))
theorem mobz_1542 : xBm bz_1542 := fun dl fs i1 i2 fin hi => (m_aload (m_getr (m_aload (m_getr (m_iload (m_ald (m_ald (m_if2 (m_xgo hi) m_no))))))))
theorem mobz_1543 : xBm bz_1543 := fun dl fs i1 i2 fin hi => (m_aload (m_getr (m_iload (m_ald (m_iconst (m_if2 (m_xgo hi) m_no))))))
theorem mobz_1544 : xBm bz_1544 := fun dl fs i1 i2 fin hi => (m_iinc (m_xgo hi))
theorem mobz_1545 : xBm bz_1545 := fun dl fs i1 i2 fin hi => (m_ret hi)
theorem mobz_1546 : xBm bz_1546 := fun dl fs i1 i2 fin hi => (m_aload (m_getr (m_iload (m_ald (m_iconst (m_if2 (m_xgo hi) (m_aload (m_getr (m_aload (m_getr (m_aload (m_getr (m_iload (m_ald (m_ald (m_ald (m_iconst (m_if2 m_no (m_iconst (m_xgo hi))))))))))))))))))))
theorem mobz_1547 : xBm bz_1547 := fun dl fs i1 i2 fin hi => (m_zret hi)
theorem mobz_1548 : xBm bz_1548 := fun dl fs i1 i2 fin hi => (m_aload (m_getr (m_iload (m_ald (m_if1 m_no (m_iconst (m_xgo hi)))))))
theorem mobz_1549 : xBm bz_1549 := fun dl fs i1 i2 fin hi => (m_istore (m_iconst (m_istore (m_iconst (m_istore (m_aload (m_getr (m_iload (m_ald (m_istore (m_xgo hi)))))))))))
theorem mobz_1550 : xBm bz_1550 := fun dl fs i1 i2 fin hi => (m_iload (m_if1 (m_xgo hi) (m_aload (m_iload (m_callv hi)))))
theorem mobz_1551 : xBm bz_1551 := fun dl fs i1 i2 fin hi => (m_istore (m_iload (m_if1 m_no (m_iload (m_if1 m_no (m_iconst (m_xgo hi)))))))
theorem mobz_1552 : xBm bz_1552 := fun dl fs i1 i2 fin hi => (m_istore (m_iload (m_if1 (m_xgo hi) (m_iload (m_if1 m_no (m_iconst (m_xgo hi)))))))
theorem mobz_1553 : xBm bz_1553 := fun dl fs i1 i2 fin hi => (m_iconst (m_xgo hi))
theorem mobz_1554 : xBm bz_1554 := fun dl fs i1 i2 fin hi => (m_istore (m_iinc (m_aload (m_getr (m_iload (m_ald (m_istore (m_xgo hi))))))))
theorem mobz_1555 : xBm bz_1555 := fun dl fs i1 i2 fin hi => (m_aload (m_getr (m_iload (m_ald (m_iconst (m_if2 (m_xgo hi) (m_iload (m_zret hi))))))))
theorem mobz_1556 : xBm bz_1556 := fun dl fs i1 i2 fin hi => (m_iload (m_if1 (m_xgo hi) (m_iload (m_aload (m_getr (m_aload (m_getr (m_aload (m_getr (m_aload (m_getr (m_iload (m_ald (m_ald (m_ald (m_ald (m_if2 (m_xgo hi) (m_iconst (m_xgo hi)))))))))))))))))))
theorem mobz_1557 : xBm bz_1557 := fun dl fs i1 i2 fin hi => (m_iconst (m_zret hi))
theorem mobz_1558 : xBm bz_1558 := fun dl fs i1 i2 fin hi => (m_zret hi)
theorem mobz_1559 : xBm bz_1559 := fun dl fs i1 i2 fin hi => (m_aload (m_dup (m_geti (m_iconst (m_bin (m_puti (m_aload (m_iconst (m_aload (m_geti (m_aload (m_getr (m_aload (m_geti (m_ald (m_callv hi))))))))))))))))
theorem mobz_1560 : xBm bz_1560 := fun dl fs i1 i2 fin hi => (m_istore (m_aload (m_iconst (m_callv hi))))
theorem mobz_1561 : xBm bz_1561 := fun dl fs i1 i2 fin hi => (m_iconst (m_istore (m_iconst (m_istore (m_aload (m_geti (m_if1 (m_xgo hi) (m_aload (m_callv hi)))))))))
theorem mobz_1562 : xBm bz_1562 := fun dl fs i1 i2 fin hi => (m_iconst (m_if2 (m_xgo hi) m_no))
theorem mobz_1563 : xBm bz_1563 := fun dl fs i1 i2 fin hi => (m_aload (m_getr (m_iload (m_iload (m_ast (m_aload (m_iconst (m_callv hi))))))))
theorem mobz_1564 : xBm bz_1564 := fun dl fs i1 i2 fin hi => (m_iconst (m_istore (m_aload (m_geti (m_if1 (m_xgo hi) (m_iload (m_if1 (m_xgo hi) (m_aload (m_iconst (m_aload (m_geti (m_aload (m_getr (m_aload (m_geti (m_ald (m_callv hi)))))))))))))))))
theorem mobz_1565 : xBm bz_1565 := fun dl fs i1 i2 fin hi => (m_aload (m_geti (m_if1 (m_xgo hi) (m_iload (m_if1 (m_xgo hi) (m_aload (m_iconst (m_aload (m_geti (m_aload (m_getr (m_aload (m_geti (m_ald (m_callv hi)))))))))))))))
theorem mobz_1566 : xBm bz_1566 := fun dl fs i1 i2 fin hi => (m_istore (m_aload (m_geti (m_istore (m_aload (m_iconst (m_callv hi)))))))
theorem mobz_1567 : xBm bz_1567 := fun dl fs i1 i2 fin hi => (m_iconst (m_istore (m_aload (m_geti (m_if1 (m_xgo hi) (m_aload (m_callv hi)))))))
theorem mobz_1568 : xBm bz_1568 := fun dl fs i1 i2 fin hi => (m_if1 (m_xgo hi) m_no)
theorem mobz_1569 : xBm bz_1569 := fun dl fs i1 i2 fin hi => (m_aload (m_getr (m_iload (m_aload (m_geti (m_iload (m_bin (m_ast (m_aload (m_iload (m_iload (m_iload (m_callv hi)))))))))))))
theorem mobz_1570 : xBm bz_1570 := fun dl fs i1 i2 fin hi => (m_istore (m_aload (m_iconst (m_callv hi))))
theorem mobz_1571 : xBm bz_1571 := fun dl fs i1 i2 fin hi => (m_istore (m_xgo hi))
theorem mobz_1572 : xBm bz_1572 := fun dl fs i1 i2 fin hi => (m_iload (m_iret hi))
theorem mobz_1573 : xBm bz_1573 := fun dl fs i1 i2 fin hi => (m_aload (m_aload (m_geti (m_if1 (m_xgo hi) m_no))))
theorem mobz_1574 : xBm bz_1574 := fun dl fs i1 i2 fin hi => (m_iconst (m_puti (m_aload (m_geti (m_if1 m_no (m_iconst (m_xgo hi)))))))
theorem mobz_1575 : xBm bz_1575 := fun dl fs i1 i2 fin hi => (m_iret hi)
theorem mobz_1576 : xBm bz_1576 := fun dl fs i1 i2 fin hi => (m_aload (m_callv hi))
theorem mobz_1577 : xBm bz_1577 := fun dl fs i1 i2 fin hi => (m_istore (m_iload (m_iconst (m_if2 (m_xgo hi) (m_aload (m_callv hi))))))
theorem mobz_1578 : xBm bz_1578 := fun dl fs i1 i2 fin hi => (m_iret hi)
theorem mobz_1579 : xBm bz_1579 := fun dl fs i1 i2 fin hi => (m_iload (m_iconst (m_if2 (m_xgo hi) (m_iload (m_iconst (m_if2 (m_xgo hi) (m_iload (m_iconst (m_if2 (m_xgo hi) (m_xgo hi))))))))))
theorem mobz_1580 : xBm bz_1580 := fun dl fs i1 i2 fin hi => (m_aload (m_iload (m_callv hi)))
theorem mobz_1581 : xBm bz_1581 := fun dl fs i1 i2 fin hi => (m_iret hi)
theorem mobz_1582 : xBm bz_1582 := fun dl fs i1 i2 fin hi => (m_iload (m_iconst (m_if2 (m_xgo hi) (m_aload (m_getr (m_aload (m_geti (m_iconst (m_bin (m_ald (m_iconst (m_if2 (m_xgo hi) (m_iconst (m_xgo hi))))))))))))))
theorem mobz_1583 : xBm bz_1583 := fun dl fs i1 i2 fin hi => (m_iconst (m_istore (m_iload (m_if1 (m_xgo hi) (m_iload (m_iconst (m_if2 (m_xgo hi) (m_aload (m_getr (m_aload (m_geti (m_iconst (m_bin (m_ald (m_iconst (m_if2 (m_xgo hi) (m_xgo hi)))))))))))))))))
theorem mobz_1584 : xBm bz_1584 := fun dl fs i1 i2 fin hi => (m_istore (m_iload (m_if1 (m_xgo hi) (m_iload (m_iconst (m_if2 (m_xgo hi) (m_aload (m_getr (m_aload (m_geti (m_iconst (m_bin (m_ald (m_iconst (m_if2 (m_xgo hi) (m_xgo hi))))))))))))))))
theorem mobz_1585 : xBm bz_1585 := fun dl fs i1 i2 fin hi => (m_aload (m_iload (m_callv hi)))
theorem mobz_1586 : xBm bz_1586 := fun dl fs i1 i2 fin hi => (m_iret hi)
theorem mobz_1587 : xBm bz_1587 := fun dl fs i1 i2 fin hi => (m_aload (m_callv hi))
theorem mobz_1588 : xBm bz_1588 := fun dl fs i1 i2 fin hi => (m_iret hi)
theorem mobz_1589 : xBm bz_1589 := fun dl fs i1 i2 fin hi => (m_aload (m_geti (m_if1 (m_xgo hi) (m_aload (m_iload (m_puti (m_xgo hi)))))))
theorem mobz_1590 : xBm bz_1590 := fun dl fs i1 i2 fin hi => (m_aload (m_getr (m_aload (m_geti (m_iload (m_ast (m_aload (m_iload (m_puti (m_ret hi))))))))))
theorem mobz_1591 : xBm bz_1591 := fun dl fs i1 i2 fin hi => (m_aload (m_iload (m_puti (m_ret hi))))
theorem mobz_1592 : xBm bz_1592 := fun dl fs i1 i2 fin hi => (m_aload (m_iconst (m_puti (m_iload (m_if1 (m_xgo hi) (m_iload (m_aload (m_geti (m_if2 (m_xgo hi) (m_xgo hi))))))))))
theorem mobz_1593 : xBm bz_1593 := fun dl fs i1 i2 fin hi => (m_iconst (m_zret hi))
theorem mobz_1594 : xBm bz_1594 := fun dl fs i1 i2 fin hi => (m_aload (m_iload (m_puti (m_iconst (m_zret hi)))))
theorem mobz_1595 : xBm bz_1595 := fun dl fs i1 i2 fin hi => (m_aload (m_geti (m_if1 (m_xgo hi) m_no)))
theorem mobz_1596 : xBm bz_1596 := fun dl fs i1 i2 fin hi => (m_aload (m_geti (m_iconst (m_if2 (m_xgo hi) m_no))))
theorem mobz_1597 : xBm bz_1597 := fun dl fs i1 i2 fin hi => (m_aload (m_dup (m_geti (m_iconst (m_bin (m_puti (m_aload (m_dup (m_geti (m_iconst (m_bin (m_puti (m_ret hi)))))))))))))
theorem mobz_1598 : xBm bz_1598 := fun dl fs i1 i2 fin hi => (m_aload (m_geti (m_if1 (m_xgo hi) m_no)))
theorem mobz_1599 : xBm bz_1599 := fun dl fs i1 i2 fin hi => (m_aload (m_callv hi))
theorem mobz_1600 : xBm bz_1600 := fun dl fs i1 i2 fin hi => (m_if1 (m_xgo hi) (m_aload (m_callv hi)))
theorem mobz_1601 : xBm bz_1601 := fun dl fs i1 i2 fin hi => (m_xgo hi)
theorem mobz_1602 : xBm bz_1602 := fun dl fs i1 i2 fin hi => (m_aload (m_iconst (m_callv hi)))
theorem mobz_1603 : xBm bz_1603 := fun dl fs i1 i2 fin hi => (m_iret hi)
theorem mobz_1604 : xBm bz_1604 := fun dl fs i1 i2 fin hi => (m_aload (m_iconst (m_puti (m_iload (m_if1 (m_xgo hi) (m_iload (m_aload (m_geti (m_if2 (m_xgo hi) (m_iload (m_if1 (m_xgo hi) (m_iload (m_iconst (m_if2 (m_xgo hi) (m_xgo hi)))))))))))))))
theorem mobz_1605 : xBm bz_1605 := fun dl fs i1 i2 fin hi => (m_iconst (m_iret hi))
theorem mobz_1606 : xBm bz_1606 := fun dl fs i1 i2 fin hi => (m_aload (m_getr (m_iload (m_ald (m_if1 (m_xgo hi) (m_iconst (m_xgo hi)))))))
theorem mobz_1607 : xBm bz_1607 := fun dl fs i1 i2 fin hi => (m_iconst (m_istore (m_iload (m_tablen (And.intro (m_xgo hi) (And.intro (m_xgo hi) (And.intro (m_xgo hi) (And.intro (m_xgo hi) (And.intro (m_xgo hi) True.intro))))) (m_xgo hi)))))
theorem mobz_1608 : xBm bz_1608 := fun dl fs i1 i2 fin hi => (m_istore (m_iload (m_tablen (And.intro (m_xgo hi) (And.intro (m_xgo hi) (And.intro (m_xgo hi) (And.intro (m_xgo hi) (And.intro (m_xgo hi) True.intro))))) (m_xgo hi))))
theorem mobz_1609 : xBm bz_1609 := fun dl fs i1 i2 fin hi => (m_aload (m_getr (m_iload (m_ald (m_iret hi)))))
theorem mobz_1610 : xBm bz_1610 := fun dl fs i1 i2 fin hi => (m_aload (m_getr (m_iload (m_ald (m_iret hi)))))
theorem mobz_1611 : xBm bz_1611 := fun dl fs i1 i2 fin hi => (m_iload (m_if1 (m_xgo hi) (m_aload (m_aload (m_getr (m_iload (m_ald (m_iconst (m_callv hi)))))))))
theorem mobz_1612 : xBm bz_1612 := fun dl fs i1 i2 fin hi => (m_xgo hi)
theorem mobz_1613 : xBm bz_1613 := fun dl fs i1 i2 fin hi => (m_iconst (m_iret hi))
theorem mobz_1614 : xBm bz_1614 := fun dl fs i1 i2 fin hi => (m_iret hi)
theorem mobz_1615 : xBm bz_1615 := fun dl fs i1 i2 fin hi => (m_iload (m_if1 (m_xgo hi) (m_aload (m_aload (m_getr (m_iload (m_ald (m_iconst (m_callv hi)))))))))
theorem mobz_1616 : xBm bz_1616 := fun dl fs i1 i2 fin hi => (m_xgo hi)
theorem mobz_1617 : xBm bz_1617 := fun dl fs i1 i2 fin hi => (m_iconst (m_iret hi))
theorem mobz_1618 : xBm bz_1618 := fun dl fs i1 i2 fin hi => (m_iret hi)
theorem mobz_1619 : xBm bz_1619 := fun dl fs i1 i2 fin hi => (m_iload (m_if1 (m_xgo hi) (m_aload (m_aload (m_getr (m_iload (m_ald (m_callv hi))))))))
theorem mobz_1620 : xBm bz_1620 := fun dl fs i1 i2 fin hi => (m_if1 (m_xgo hi) (m_iconst (m_xgo hi)))
theorem mobz_1621 : xBm bz_1621 := fun dl fs i1 i2 fin hi => (m_iconst (m_iret hi))
theorem mobz_1622 : xBm bz_1622 := fun dl fs i1 i2 fin hi => (m_iret hi)
theorem mobz_1623 : xBm bz_1623 := fun dl fs i1 i2 fin hi => (m_aload (m_getr (m_iload (m_ald (m_if1 (m_xgo hi) (m_iconst (m_xgo hi)))))))
theorem mobz_1624 : xBm bz_1624 := fun dl fs i1 i2 fin hi => (m_iconst (m_iret hi))
theorem mobz_1625 : xBm bz_1625 := fun dl fs i1 i2 fin hi => (m_iret hi)
theorem mobz_1626 : xBm bz_1626 := fun dl fs i1 i2 fin hi => (m_aload (m_iconst (m_puti (m_aload (m_geti (m_iret hi))))))
theorem mobz_1627 : xBm bz_1627 := fun dl fs i1 i2 fin hi => (m_aload (m_iconst (m_puti (m_aload (m_geti (m_iconst (m_bin (m_iconst (m_if2 (m_xgo hi) m_no)))))))))
theorem mobz_1628 : xBm bz_1628 := fun dl fs i1 i2 fin hi => (m_iconst (m_istore (m_iload (m_iconst (m_if2 (m_xgo hi) (m_iload (m_iconst (m_if2 (m_xgo hi) (m_iload (m_xgo hi))))))))))
theorem mobz_1629 : xBm bz_1629 := fun dl fs i1 i2 fin hi => (m_iload (m_iconst (m_if2 (m_xgo hi) (m_iload (m_iconst (m_if2 (m_xgo hi) (m_iload (m_xgo hi))))))))
theorem mobz_1630 : xBm bz_1630 := fun dl fs i1 i2 fin hi => (m_iload (m_iconst (m_if2 (m_xgo hi) (m_iload (m_xgo hi)))))
theorem mobz_1631 : xBm bz_1631 := fun dl fs i1 i2 fin hi => (m_iload (m_iconst (m_if2 (m_xgo hi) (m_iload (m_xgo hi)))))
theorem mobz_1632 : xBm bz_1632 := fun dl fs i1 i2 fin hi => (m_iload (m_iconst (m_if2 (m_xgo hi) (m_iload (m_xgo hi)))))
theorem mobz_1633 : xBm bz_1633 := fun dl fs i1 i2 fin hi => (m_iload (m_istore (m_aload (m_getr (m_aload (m_geti (m_iload (m_bin (m_iload (m_iconst (m_iconst (m_iload (m_iconst (m_divr (m_bin (m_bin (m_ishra (m_un (m_ast (m_iinc (m_xgo hi)))))))))))))))))))))
theorem mobz_1634 : xBm bz_1634 := fun dl fs i1 i2 fin hi => (m_istore (m_aload (m_getr (m_aload (m_geti (m_iload (m_bin (m_iload (m_iconst (m_iconst (m_iload (m_iconst (m_divr (m_bin (m_bin (m_ishra (m_un (m_ast (m_iinc (m_xgo hi))))))))))))))))))))
theorem mobz_1635 : xBm bz_1635 := fun dl fs i1 i2 fin hi => (m_aload (m_dup (m_geti (m_iconst (m_bin (m_puti (m_iconst (m_zret hi))))))))
theorem mobz_1636 : xBm bz_1636 := fun dl fs i1 i2 fin hi => (m_aload (m_geti (m_iload (m_if2 (m_xgo hi) (m_aload (m_dup (m_geti (m_iconst (m_bin (m_puti (m_aload (m_getr (m_aload (m_getr (m_aload (m_geti (m_ald (m_aload (m_getr (m_aload (m_geti (m_ald (m_xgo hi)))))))))))))))))))))))
theorem mobz_1637 : xBm bz_1637 := fun dl fs i1 i2 fin hi => (m_ret hi)
theorem mobz_1638 : xBm bz_1638 := fun dl fs i1 i2 fin hi => (m_iconst (m_istore (m_iload (m_istore (m_iload (m_iload (m_if2 (m_xgo hi) (m_aload (m_iload (m_iload (m_aload (m_getr (m_iload (m_ald (m_callv hi)))))))))))))))
theorem mobz_1639 : xBm bz_1639 := fun dl fs i1 i2 fin hi => (m_iload (m_iload (m_if2 (m_xgo hi) (m_aload (m_iload (m_iload (m_aload (m_getr (m_iload (m_ald (m_callv hi)))))))))))
theorem mobz_1640 : xBm bz_1640 := fun dl fs i1 i2 fin hi => (m_istore (m_iload (m_iload (m_iload (m_bin (m_if2 (m_xgo hi) (m_aload (m_iload (m_iload (m_iload (m_iload (m_iload (m_callv hi)))))))))))))
theorem mobz_1641 : xBm bz_1641 := fun dl fs i1 i2 fin hi => (m_iret hi)
theorem mobz_1642 : xBm bz_1642 := fun dl fs i1 i2 fin hi => (m_iload (m_if1 (m_xgo hi) m_no))
theorem mobz_1643 : xBm bz_1643 := fun dl fs i1 i2 fin hi => (m_iinc (m_xgo hi))
theorem mobz_1644 : xBm bz_1644 := fun dl fs i1 i2 fin hi => (m_iload (m_if1 (m_xgo hi) (m_iload (m_iload (m_bin (m_iconst (m_if2 (m_xgo hi) (m_aload (m_iconst (m_aload (m_getr (m_iload (m_ald (m_callv hi))))))))))))))
theorem mobz_1645 : xBm bz_1645 := fun dl fs i1 i2 fin hi => (m_iret hi)
theorem mobz_1646 : xBm bz_1646 := fun dl fs i1 i2 fin hi => (m_aload (m_iconst (m_iconst (m_callv hi))))
theorem mobz_1647 : xBm bz_1647 := fun dl fs i1 i2 fin hi => (m_istore (m_iconst (m_istore (m_iload (m_istore (m_iload (m_iload (m_if2 (m_xgo hi) (m_iload (m_iconst (m_bin (m_istore (m_iload (m_if1 (m_xgo hi) m_no))))))))))))))
theorem mobz_1648 : xBm bz_1648 := fun dl fs i1 i2 fin hi => (m_iload (m_iload (m_if2 (m_xgo hi) (m_iload (m_iconst (m_bin (m_istore (m_iload (m_if1 (m_xgo hi) m_no)))))))))
theorem mobz_1649 : xBm bz_1649 := fun dl fs i1 i2 fin hi => (m_iload (m_if1 m_no (m_aload (m_iconst (m_aload (m_getr (m_iload (m_ald (m_callv hi)))))))))
theorem mobz_1650 : xBm bz_1650 := fun dl fs i1 i2 fin hi => (m_xgo hi)
theorem mobz_1651 : xBm bz_1651 := fun dl fs i1 i2 fin hi => (m_istore (m_iload (m_if1 (m_xgo hi) (m_aload (m_getr (m_iload (m_iload (m_ast (m_xgo hi)))))))))
theorem mobz_1652 : xBm bz_1652 := fun dl fs i1 i2 fin hi => (m_aload (m_getr (m_iload (m_iload (m_ast (m_iload (m_istore (m_iload (m_istore (m_xgo hi))))))))))
theorem mobz_1653 : xBm bz_1653 := fun dl fs i1 i2 fin hi => (m_iload (m_istore (m_iload (m_istore (m_xgo hi)))))
theorem mobz_1654 : xBm bz_1654 := fun dl fs i1 i2 fin hi => (m_iload (m_iret hi))
theorem mobz_1655 : xBm bz_1655 := fun dl fs i1 i2 fin hi => (m_iconst (m_istore (m_iload (m_iload (m_if2 (m_xgo hi) (m_aload (m_getr (m_aload (m_geti (m_aload (m_iconst (m_iload (m_callv hi)))))))))))))
theorem mobz_1656 : xBm bz_1656 := fun dl fs i1 i2 fin hi => (m_iload (m_iload (m_if2 (m_xgo hi) (m_aload (m_getr (m_aload (m_geti (m_aload (m_iconst (m_iload (m_callv hi)))))))))))
theorem mobz_1657 : xBm bz_1657 := fun dl fs i1 i2 fin hi => (m_ast (m_aload (m_dup (m_geti (m_iconst (m_bin (m_puti (m_iinc (m_xgo hi)))))))))
theorem mobz_1658 : xBm bz_1658 := fun dl fs i1 i2 fin hi => (m_aload (m_iload (m_aload (m_geti (m_iconst (m_aload (m_geti (m_callv hi))))))))
theorem mobz_1659 : xBm bz_1659 := fun dl fs i1 i2 fin hi => (m_istore (m_aload (m_iconst (m_puti (m_aload (m_iconst (m_puti (m_iload (m_iret hi)))))))))
theorem mobz_1660 : xBm bz_1660 := fun dl fs i1 i2 fin hi => (m_aload (m_iconst (m_putz (m_iload (m_istore (m_iload (m_aload (m_geti (m_if2 (m_xgo hi) (m_aload (m_getr (m_iload (m_ald (m_iconst (m_if2 m_no (m_xgo hi))))))))))))))))
theorem mobz_1661 : xBm bz_1661 := fun dl fs i1 i2 fin hi => (m_iload (m_aload (m_geti (m_if2 (m_xgo hi) (m_aload (m_getr (m_iload (m_ald (m_iconst (m_if2 m_no (m_xgo hi)))))))))))
theorem mobz_1662 : xBm bz_1662 := fun dl fs i1 i2 fin hi => (m_iinc (m_xgo hi))
theorem mobz_1663 : xBm bz_1663 := fun dl fs i1 i2 fin hi => (m_ret hi)
theorem mobz_1664 : xBm bz_1664 := fun dl fs i1 i2 fin hi => (m_aload (m_iconst (m_putz (m_aload (m_getr (m_iload (m_iconst (m_ast (m_aload (m_getr (m_iload (m_ald (m_if1 (m_xgo hi) (m_ret hi))))))))))))))
theorem mobz_1665 : xBm bz_1665 := fun dl fs i1 i2 fin hi => (m_iconst (m_istore (m_iload (m_aload (m_getr (m_iload (m_ald (m_if2 (m_xgo hi) (m_aload (m_getr (m_aload (m_geti (m_aload (m_getr (m_iload (m_ald (m_iload (m_bin (m_ast (m_aload (m_dup (m_geti (m_xgo hi)))))))))))))))))))))))
theorem mobz_1666 : xBm bz_1666 := fun dl fs i1 i2 fin hi => (m_iload (m_aload (m_getr (m_iload (m_ald (m_if2 (m_xgo hi) (m_aload (m_getr (m_aload (m_geti (m_aload (m_getr (m_iload (m_ald (m_iload (m_bin (m_ast (m_aload (m_dup (m_geti (m_iconst (m_bin (m_xgo hi)))))))))))))))))))))))
theorem mobz_1667 : xBm bz_1667 := fun dl fs i1 i2 fin hi => (m_aload (m_getr (m_iload (m_aload (m_iconst (m_aload (m_getr (m_iload (m_ald (m_callv hi))))))))))
theorem mobz_1668 : xBm bz_1668 := fun dl fs i1 i2 fin hi => (m_ast (m_ret hi))
theorem mobz_1669 : xBm bz_1669 := fun dl fs i1 i2 fin hi => (m_aload (m_geti (m_if1 (m_xgo hi) (m_aload (m_callv hi)))))
theorem mobz_1670 : xBm bz_1670 := fun dl fs i1 i2 fin hi => (m_iconst (m_if2 m_no (m_aload (m_callv hi))))
theorem mobz_1671 : xBm bz_1671 := fun dl fs i1 i2 fin hi => (m_iret hi)
theorem mobz_1672 : xBm bz_1672 := fun dl fs i1 i2 fin hi => (m_aload (m_iconst (m_aload (m_geti (m_iconst (m_callv hi))))))
theorem mobz_1673 : xBm bz_1673 := fun dl fs i1 i2 fin hi => (m_istore (m_aload (m_dup (m_geti (m_iconst (m_bin (m_puti (m_aload (m_getr (m_iload (m_iload (m_ast (m_aload (m_callv hi))))))))))))))
theorem mobz_1674 : xBm bz_1674 := fun dl fs i1 i2 fin hi => (m_iconst (m_if2 m_no (m_aload (m_getr (m_aload (m_geti (m_ald (m_iconst (m_if2 (m_xgo hi) m_no)))))))))
theorem mobz_1675 : xBm bz_1675 := fun dl fs i1 i2 fin hi => (m_aload (m_getr (m_iload (m_aload (m_getr (m_aload (m_geti (m_ald (m_ast (m_aload (m_iconst (m_callv hi))))))))))))
theorem mobz_1676 : xBm bz_1676 := fun dl fs i1 i2 fin hi => (m_iconst (m_istore (m_iconst (m_istore (m_aload (m_geti (m_if1 (m_xgo hi) (m_iload (m_if1 (m_xgo hi) (m_aload (m_geti (m_istore (m_aload (m_callv hi))))))))))))))
theorem mobz_1677 : xBm bz_1677 := fun dl fs i1 i2 fin hi => (m_aload (m_geti (m_if1 (m_xgo hi) (m_iload (m_if1 (m_xgo hi) (m_aload (m_geti (m_istore (m_aload (m_callv hi))))))))))
theorem mobz_1678 : xBm bz_1678 := fun dl fs i1 i2 fin hi => (m_istore (m_aload (m_iload (m_iload (m_aload (m_iconst (m_iload (m_iload (m_callv hi)))))))))
theorem mobz_1679 : xBm bz_1679 := fun dl fs i1 i2 fin hi => (m_callv hi)
theorem mobz_1680 : xBm bz_1680 := fun dl fs i1 i2 fin hi => (m_istore (m_aload (m_iconst (m_callv hi))))
theorem mobz_1681 : xBm bz_1681 := fun dl fs i1 i2 fin hi => (m_istore (m_xgo hi))
theorem mobz_1682 : xBm bz_1682 := fun dl fs i1 i2 fin hi => (m_iload (m_iret hi))
theorem mobz_1683 : xBm bz_1683 := fun dl fs i1 i2 fin hi => (m_iload (m_iconst (m_if2 (m_xgo hi) (m_iconst (m_iload (m_bin (m_xgo hi)))))))
theorem mobz_1684 : xBm bz_1684 := fun dl fs i1 i2 fin hi => (m_iload (m_iconst (m_if2 (m_xgo hi) m_no)))
theorem mobz_1685 : xBm bz_1685 := fun dl fs i1 i2 fin hi => (m_iconst (m_iret hi))
theorem mobz_1686 : xBm bz_1686 := fun dl fs i1 i2 fin hi => (m_iret hi)
theorem mobz_1687 : xBm bz_1687 := fun dl fs i1 i2 fin hi => (m_iload (m_calls hi))
theorem mobz_1688 : xBm bz_1688 := fun dl fs i1 i2 fin hi => (m_if1 (m_xgo hi) (m_iload (m_calls hi)))
theorem mobz_1689 : xBm bz_1689 := fun dl fs i1 i2 fin hi => (m_if1 (m_xgo hi) (m_iload (m_calls hi)))
theorem mobz_1690 : xBm bz_1690 := fun dl fs i1 i2 fin hi => (m_if1 (m_xgo hi) (m_iload (m_iconst (m_if2 (m_xgo hi) (m_iconst (m_xgo hi))))))
theorem mobz_1691 : xBm bz_1691 := fun dl fs i1 i2 fin hi => (m_iconst (m_xgo hi))
theorem mobz_1692 : xBm bz_1692 := fun dl fs i1 i2 fin hi => (m_iconst (m_zret hi))
theorem mobz_1693 : xBm bz_1693 := fun dl fs i1 i2 fin hi => (m_zret hi)
theorem mobz_1694 : xBm bz_1694 := fun dl fs i1 i2 fin hi => (m_aload (m_getr (m_iload (m_ald (m_iconst (m_if2 (m_xgo hi) (m_aload (m_getr (m_aload (m_getr (m_iload (m_ald (m_ald (m_iconst (m_if2 (m_xgo hi) (m_aload (m_getr (m_aload (m_getr (m_iload (m_ald (m_ald (m_xgo hi)))))))))))))))))))))))
theorem mobz_1695 : xBm bz_1695 := fun dl fs i1 i2 fin hi => (m_iconst (m_zret hi))
theorem mobz_1696 : xBm bz_1696 := fun dl fs i1 i2 fin hi => (m_zret hi)
theorem mobz_1697 : xBm bz_1697 := fun dl fs i1 i2 fin hi => (m_iload (m_iconst (m_if2 (m_xgo hi) (m_iload (m_iconst (m_if2 (m_xgo hi) (m_iconst (m_xgo hi))))))))
theorem mobz_1698 : xBm bz_1698 := fun dl fs i1 i2 fin hi => (m_iconst (m_zret hi))
theorem mobz_1699 : xBm bz_1699 := fun dl fs i1 i2 fin hi => (m_zret hi)
theorem mobz_1700 : xBm bz_1700 := fun dl fs i1 i2 fin hi => (m_iload (m_iconst (m_if2 (m_xgo hi) (m_iload (m_iconst (m_if2 (m_xgo hi) (m_iconst (m_xgo hi))))))))
theorem mobz_1701 : xBm bz_1701 := fun dl fs i1 i2 fin hi => (m_iconst (m_zret hi))
theorem mobz_1702 : xBm bz_1702 := fun dl fs i1 i2 fin hi => (m_zret hi)
theorem mobz_1703 : xBm bz_1703 := fun dl fs i1 i2 fin hi => (m_aload (m_iload (m_iload (m_callv hi))))
theorem mobz_1704 : xBm bz_1704 := fun dl fs i1 i2 fin hi => (m_istore (m_iload (m_istore (m_iload (m_iload (m_if2 (m_xgo hi) (m_aload (m_getr (m_iload (m_ald (m_iconst (m_if2 (m_xgo hi) (m_iconst (m_zret hi))))))))))))))
theorem mobz_1705 : xBm bz_1705 := fun dl fs i1 i2 fin hi => (m_iload (m_iload (m_if2 (m_xgo hi) (m_aload (m_getr (m_iload (m_ald (m_iconst (m_if2 (m_xgo hi) (m_iconst (m_zret hi)))))))))))
theorem mobz_1706 : xBm bz_1706 := fun dl fs i1 i2 fin hi => (m_iinc (m_xgo hi))
theorem mobz_1707 : xBm bz_1707 := fun dl fs i1 i2 fin hi => (m_iload (m_iload (m_bin (m_iconst (m_if2 (m_xgo hi) m_no)))))
theorem mobz_1708 : xBm bz_1708 := fun dl fs i1 i2 fin hi => (m_iconst (m_zret hi))
theorem mobz_1709 : xBm bz_1709 := fun dl fs i1 i2 fin hi => (m_aload (m_getr (m_iload (m_ald (m_iconst (m_if2 (m_xgo hi) (m_aload (m_getr (m_iload (m_ald (m_iconst (m_if2 (m_xgo hi) (m_xgo hi)))))))))))))
theorem mobz_1710 : xBm bz_1710 := fun dl fs i1 i2 fin hi => (m_iconst (m_xgo hi))
theorem mobz_1711 : xBm bz_1711 := fun dl fs i1 i2 fin hi => (m_iconst (m_zret hi))
theorem mobz_1712 : xBm bz_1712 := fun dl fs i1 i2 fin hi => (m_zret hi)
theorem mobz_1713 : xBm bz_1713 := fun dl fs i1 i2 fin hi => (m_text (m_iload (m_callt hi)))
theorem mobz_1714 : xBm bz_1714 := fun dl fs i1 i2 fin hi => (m_if1 (m_xgo hi) (m_iconst (m_xgo hi)))
theorem mobz_1715 : xBm bz_1715 := fun dl fs i1 i2 fin hi => (m_iconst (m_zret hi))
theorem mobz_1716 : xBm bz_1716 := fun dl fs i1 i2 fin hi => (m_zret hi)
theorem mobz_1717 : xBm bz_1717 := fun dl fs i1 i2 fin hi => (m_aload (m_getr (m_iload (m_ald (m_istore (m_iload (m_aload (m_getr (m_iload (m_ald (m_if2 (m_xgo hi) (m_aload (m_getr (m_iload (m_ald (m_istore (m_iload (m_iconst (m_if2 m_no (m_iload (m_iconst (m_if2 (m_xgo hi) m_no))))))))))))))))))))))
theorem mobz_1718 : xBm bz_1718 := fun dl fs i1 i2 fin hi => (m_iload (m_aload (m_getr (m_iload (m_ald (m_if2 (m_xgo hi) (m_aload (m_getr (m_iload (m_ald (m_istore (m_iload (m_iconst (m_if2 m_no (m_iload (m_iconst (m_if2 (m_xgo hi) m_no)))))))))))))))))
theorem mobz_1719 : xBm bz_1719 := fun dl fs i1 i2 fin hi => (m_iload (m_iconst (m_if2 (m_xgo hi) m_no)))
theorem mobz_1720 : xBm bz_1720 := fun dl fs i1 i2 fin hi => (m_iload (m_iconst (m_if2 (m_xgo hi) (m_iload (m_iconst (m_if2 (m_xgo hi) (m_aload (m_getr (m_iload (m_ald (m_if1 (m_xgo hi) (m_xgo hi))))))))))))
theorem mobz_1721 : xBm bz_1721 := fun dl fs i1 i2 fin hi => (m_aload (m_getr (m_iload (m_ald (m_iconst (m_if2 (m_xgo hi) (m_aload (m_getr (m_iconst (m_aload (m_getr (m_iload (m_ald (m_bin (m_ald (m_if1 (m_xgo hi) m_no))))))))))))))))
theorem mobz_1722 : xBm bz_1722 := fun dl fs i1 i2 fin hi => (m_iinc (m_xgo hi))
theorem mobz_1723 : xBm bz_1723 := fun dl fs i1 i2 fin hi => (m_iconst (m_zret hi))
theorem mobz_1724 : xBm bz_1724 := fun dl fs i1 i2 fin hi => (m_iload (m_iconst (m_if2 (m_xgo hi) (m_iload (m_iconst (m_if2 (m_xgo hi) (m_iload (m_iconst (m_if2 (m_xgo hi) (m_xgo hi))))))))))
theorem mobz_1725 : xBm bz_1725 := fun dl fs i1 i2 fin hi => (m_iload (m_iconst (m_if2 (m_xgo hi) (m_iconst (m_xgo hi)))))
theorem mobz_1726 : xBm bz_1726 := fun dl fs i1 i2 fin hi => (m_iconst (m_xgo hi))
theorem mobz_1727 : xBm bz_1727 := fun dl fs i1 i2 fin hi => (m_iconst (m_zret hi))
theorem mobz_1728 : xBm bz_1728 := fun dl fs i1 i2 fin hi => (m_zret hi)
theorem mobz_1729 : xBm bz_1729 := fun dl fs i1 i2 fin hi => (m_aload (m_getr (m_aload (m_geti (m_ald (m_iret hi))))))
theorem mobz_1730 : xBm bz_1730 := fun dl fs i1 i2 fin hi => (m_aload (m_getr (m_iload (m_ald (m_iload (m_if2 (m_xgo hi) m_no))))))
theorem mobz_1731 : xBm bz_1731 := fun dl fs i1 i2 fin hi => (m_aload (m_getr (m_aload (m_geti (m_iload (m_ast (m_aload (m_getr (m_aload (m_geti (m_iload (m_ast (m_aload (m_getr (m_aload (m_geti (m_aload (m_getr (m_iload (m_ald (m_ast (m_aload (m_xgo hi)))))))))))))))))))))))
theorem mobz_1732 : xBm bz_1732 := fun dl fs i1 i2 fin hi => (m_iload (m_istore (m_iload (m_if1 (m_xgo hi) (m_aload (m_iload (m_ald (m_if1 (m_xgo hi) (m_aload (m_iload (m_ald (m_istore (m_xgo hi)))))))))))))
theorem mobz_1733 : xBm bz_1733 := fun dl fs i1 i2 fin hi => (m_iload (m_if1 (m_xgo hi) (m_aload (m_iload (m_ald (m_if1 (m_xgo hi) (m_aload (m_iload (m_ald (m_istore (m_xgo hi)))))))))))
theorem mobz_1734 : xBm bz_1734 := fun dl fs i1 i2 fin hi => (m_iload (m_iret hi))
theorem mobz_1735 : xBm bz_1735 := fun dl fs i1 i2 fin hi => (m_iconst (m_istore (m_aload (m_getr (m_iload (m_ald (m_istore (m_aload (m_getr (m_iconst (m_iload (m_ast (m_xgo hi)))))))))))))
theorem mobz_1736 : xBm bz_1736 := fun dl fs i1 i2 fin hi => (m_aload (m_getr (m_iload (m_ald (m_if1 (m_xgo hi) (m_aload (m_getr (m_iload (m_aload (m_getr (m_iload (m_ald (m_ast (m_aload (m_getr (m_aload (m_getr (m_iload (m_ald (m_ald (m_istore (m_iinc (m_xgo hi)))))))))))))))))))))))
theorem mobz_1737 : xBm bz_1737 := fun dl fs i1 i2 fin hi => (m_iload (m_iret hi))
theorem mobz_1738 : xBm bz_1738 := fun dl fs i1 i2 fin hi => (m_aload (m_iload (m_callv hi)))
theorem mobz_1739 : xBm bz_1739 := fun dl fs i1 i2 fin hi => (m_aload (m_dup (m_geti (m_iconst (m_bin (m_puti (m_ret hi)))))))
theorem mobz_1740 : xBm bz_1740 := fun dl fs i1 i2 fin hi => (m_aload (m_iconst (m_iload (m_iconst (m_divr (m_bin (m_callv hi)))))))
theorem mobz_1741 : xBm bz_1741 := fun dl fs i1 i2 fin hi => (m_iload (m_iconst (m_if2 (m_xgo hi) m_no)))
theorem mobz_1742 : xBm bz_1742 := fun dl fs i1 i2 fin hi => (m_ret hi)
theorem mobz_1743 : xBm bz_1743 := fun dl fs i1 i2 fin hi => (m_aload (m_geti (m_istore (m_aload (m_callv hi)))))
theorem mobz_1744 : xBm bz_1744 := fun dl fs i1 i2 fin hi => (m_aload (m_iconst (m_callv hi)))
theorem mobz_1745 : xBm bz_1745 := fun dl fs i1 i2 fin hi => (m_if1 m_no (m_aload (m_dup (m_geti (m_iconst (m_bin (m_puti (m_aload (m_iconst (m_iload (m_iconst (m_callv hi))))))))))))
theorem mobz_1746 : xBm bz_1746 := fun dl fs i1 i2 fin hi => (m_iret hi)
theorem mobz_1747 : xBm bz_1747 := fun dl fs i1 i2 fin hi => (m_iconst (m_istore (m_aload (m_getr (m_iload (m_ald (m_istore (m_iload (m_if1 (m_xgo hi) (m_iinc (m_aload (m_getr (m_iload (m_ald (m_istore (m_xgo hi))))))))))))))))
theorem mobz_1748 : xBm bz_1748 := fun dl fs i1 i2 fin hi => (m_iload (m_if1 (m_xgo hi) (m_iinc (m_aload (m_getr (m_iload (m_ald (m_istore (m_xgo hi)))))))))
theorem mobz_1749 : xBm bz_1749 := fun dl fs i1 i2 fin hi => (m_iload (m_iret hi))
theorem mobz_1750 : xBm bz_1750 := fun dl fs i1 i2 fin hi => (m_aload (m_getr (m_iload (m_ald (m_istore (m_iload (m_iconst (m_if2 (m_xgo hi) (m_iload (m_iconst (m_if2 (m_xgo hi) (m_iconst (m_xgo hi)))))))))))))
theorem mobz_1751 : xBm bz_1751 := fun dl fs i1 i2 fin hi => (m_iload (m_iconst (m_if2 (m_xgo hi) (m_iconst (m_xgo hi)))))
theorem mobz_1752 : xBm bz_1752 := fun dl fs i1 i2 fin hi => (m_iload (m_iconst (m_if2 (m_xgo hi) (m_iconst (m_xgo hi)))))
theorem mobz_1753 : xBm bz_1753 := fun dl fs i1 i2 fin hi => (m_iload (m_iconst (m_if2 (m_xgo hi) m_no)))
theorem mobz_1754 : xBm bz_1754 := fun dl fs i1 i2 fin hi => (m_iconst (m_iret hi))
theorem mobz_1755 : xBm bz_1755 := fun dl fs i1 i2 fin hi => (m_iret hi)
theorem mobz_1756 : xBm bz_1756 := fun dl fs i1 i2 fin hi => (m_aload (m_getr (m_iload (m_iconst (m_bin (m_ald (m_istore (m_iload (m_iconst (m_if2 (m_xgo hi) (m_iload (m_iconst (m_if2 (m_xgo hi) (m_iload (m_iconst (m_if2 (m_xgo hi) (m_iconst (m_xgo hi))))))))))))))))))
theorem mobz_1757 : xBm bz_1757 := fun dl fs i1 i2 fin hi => (m_iload (m_iconst (m_if2 (m_xgo hi) (m_iload (m_iconst (m_if2 (m_xgo hi) (m_iload (m_iconst (m_if2 (m_xgo hi) (m_iconst (m_xgo hi)))))))))))
theorem mobz_1758 : xBm bz_1758 := fun dl fs i1 i2 fin hi => (m_iconst (m_iret hi))
theorem mobz_1759 : xBm bz_1759 := fun dl fs i1 i2 fin hi => (m_iret hi)
theorem mobz_1760 : xBm bz_1760 := fun dl fs i1 i2 fin hi => (m_aload (m_iconst (m_puti (m_aload (m_geti (m_istore (m_aload (m_iconst (m_puti (m_aload (m_aload (m_getr (m_iload (m_iconst (m_aload (m_getr (m_iconst (m_iconst (m_callv hi)))))))))))))))))))
theorem mobz_1761 : xBm bz_1761 := fun dl fs i1 i2 fin hi => (m_istore (m_iload (m_if1 (m_xgo hi) m_no)))
theorem mobz_1762 : xBm bz_1762 := fun dl fs i1 i2 fin hi => (m_iconst (m_istore (m_iload (m_iload (m_if2 (m_xgo hi) m_no)))))
theorem mobz_1763 : xBm bz_1763 := fun dl fs i1 i2 fin hi => (m_aload (m_iload (m_puti (m_aload (m_iconst (m_putz (m_iconst (m_iret hi))))))))
theorem mobz_1764 : xBm bz_1764 := fun dl fs i1 i2 fin hi => (m_aload (m_geti (m_if1 (m_xgo hi) (m_aload (m_geti (m_iload (m_if2 (m_xgo hi) (m_aload (m_aload (m_callv hi))))))))))
theorem mobz_1765 : xBm bz_1765 := fun dl fs i1 i2 fin hi => (m_callv hi)
theorem mobz_1766 : xBm bz_1766 := fun dl fs i1 i2 fin hi => (m_aload (m_iconst (m_callv hi)))
theorem mobz_1767 : xBm bz_1767 := fun dl fs i1 i2 fin hi => (m_xgo hi)
theorem mobz_1768 : xBm bz_1768 := fun dl fs i1 i2 fin hi => (m_aload (m_geti (m_if1 (m_xgo hi) (m_aload (m_geti (m_iload (m_if2 (m_xgo hi) (m_aload (m_geti (m_if1 (m_xgo hi) (m_aload (m_dup (m_geti (m_iconst (m_bin (m_puti (m_xgo hi)))))))))))))))))
theorem mobz_1769 : xBm bz_1769 := fun dl fs i1 i2 fin hi => (m_ret hi)
theorem mobz_1770 : xBm bz_1770 := fun dl fs i1 i2 fin hi => (m_aload (m_getr (m_iload (m_ald (m_if1 (m_xgo hi) (m_ret hi))))))
theorem mobz_1771 : xBm bz_1771 := fun dl fs i1 i2 fin hi => (m_aload (m_getr (m_iconst (m_aload (m_getr (m_iload (m_ald (m_bin (m_ald (m_istore (m_iload (m_if1 (m_xgo hi) m_no))))))))))))
theorem mobz_1772 : xBm bz_1772 := fun dl fs i1 i2 fin hi => (m_aload (m_getr (m_iload (m_iload (m_ast (m_ret hi))))))
theorem mobz_1773 : xBm bz_1773 := fun dl fs i1 i2 fin hi => (m_aload (m_dup (m_geti (m_iconst (m_bin (m_puti (m_iconst (m_istore (m_aload (m_getr (m_iload (m_ald (m_istore (m_xgo hi))))))))))))))
theorem mobz_1774 : xBm bz_1774 := fun dl fs i1 i2 fin hi => (m_iload (m_if1 (m_xgo hi) (m_aload (m_getr (m_iload (m_ald (m_iconst (m_if2 m_no (m_aload (m_getr (m_iload (m_ald (m_istore (m_iload (m_if1 (m_xgo hi) m_no)))))))))))))))
theorem mobz_1775 : xBm bz_1775 := fun dl fs i1 i2 fin hi => (m_xgo hi)
theorem mobz_1776 : xBm bz_1776 := fun dl fs i1 i2 fin hi => (m_aload (m_getr (m_iload (m_ald (m_istore (m_xgo hi))))))
theorem mobz_1777 : xBm bz_1777 := fun dl fs i1 i2 fin hi => (m_ret hi)
theorem mobz_1778 : xBm bz_1778 := fun dl fs i1 i2 fin hi => (m_aload (m_geti (m_istore (m_aload (m_getr (m_iload (m_ald (m_tablen (And.intro (m_xgo hi) (And.intro (m_xgo hi) (And.intro (m_xgo hi) (And.intro (m_xgo hi) (And.intro (m_xgo hi) (And.intro (m_xgo hi) (And.intro (m_xgo hi) (And.intro (m_xgo hi) (And.intro (m_xgo hi) (And.intro (m_xgo hi) (And.intro (m_xgo hi) (And.intro m_no (And.intro (m_xgo hi) (And.intro (m_xgo hi) (And.intro (m_xgo hi) (And.intro m_no (And.intro (m_xgo hi) True.intro))))))))))))))))) (m_xgo hi)))))))))
theorem mobz_1779 : xBm bz_1779 := fun dl fs i1 i2 fin hi => (m_aload (m_iload (m_callv hi)))
theorem mobz_1780 : xBm bz_1780 := fun dl fs i1 i2 fin hi => (m_xgo hi)
theorem mobz_1781 : xBm bz_1781 := fun dl fs i1 i2 fin hi => (m_aload (m_iload (m_callv hi)))
theorem mobz_1782 : xBm bz_1782 := fun dl fs i1 i2 fin hi => (m_xgo hi)
theorem mobz_1783 : xBm bz_1783 := fun dl fs i1 i2 fin hi => (m_aload (m_getr (m_aload (m_getr (m_iload (m_ald (m_calls hi)))))))
theorem mobz_1784 : xBm bz_1784 := fun dl fs i1 i2 fin hi => (m_istore (m_aload (m_getr (m_iload (m_ald (m_istore (m_iload (m_iload (m_if2 (m_xgo hi) (m_aload (m_iload (m_iload (m_callv hi)))))))))))))
theorem mobz_1785 : xBm bz_1785 := fun dl fs i1 i2 fin hi => (m_iload (m_iload (m_if2 (m_xgo hi) (m_aload (m_iload (m_iload (m_callv hi)))))))
theorem mobz_1786 : xBm bz_1786 := fun dl fs i1 i2 fin hi => (m_aload (m_getr (m_iload (m_ald (m_istore (m_xgo hi))))))
theorem mobz_1787 : xBm bz_1787 := fun dl fs i1 i2 fin hi => (m_aload (m_iload (m_callv hi)))
theorem mobz_1788 : xBm bz_1788 := fun dl fs i1 i2 fin hi => (m_aload (m_iload (m_callv hi)))
theorem mobz_1789 : xBm bz_1789 := fun dl fs i1 i2 fin hi => (m_xgo hi)
theorem mobz_1790 : xBm bz_1790 := fun dl fs i1 i2 fin hi => (m_aload (m_getr (m_iload (m_ald (m_istore (m_iload (m_if1 (m_xgo hi) (m_aload (m_iload (m_callv hi))))))))))
theorem mobz_1791 : xBm bz_1791 := fun dl fs i1 i2 fin hi => (m_iload (m_if1 (m_xgo hi) (m_aload (m_iload (m_callv hi)))))
theorem mobz_1792 : xBm bz_1792 := fun dl fs i1 i2 fin hi => (m_aload (m_getr (m_iload (m_ald (m_istore (m_xgo hi))))))
theorem mobz_1793 : xBm bz_1793 := fun dl fs i1 i2 fin hi => (m_ret hi)
theorem mobz_1794 : xBm bz_1794 := fun dl fs i1 i2 fin hi => (m_aload (m_getr (m_iload (m_ald (m_istore (m_iload (m_if1 (m_xgo hi) (m_aload (m_getr (m_iload (m_ald (m_istore (m_aload (m_getr (m_iload (m_ald (m_if1 m_no (m_aload (m_getr (m_iload (m_ald (m_iload (m_xgo hi)))))))))))))))))))))))
theorem mobz_1795 : xBm bz_1795 := fun dl fs i1 i2 fin hi => (m_iload (m_if1 (m_xgo hi) (m_aload (m_getr (m_iload (m_ald (m_istore (m_aload (m_getr (m_iload (m_ald (m_if1 m_no (m_aload (m_getr (m_iload (m_ald (m_iload (m_if2 (m_xgo hi) m_no))))))))))))))))))
theorem mobz_1796 : xBm bz_1796 := fun dl fs i1 i2 fin hi => (m_aload (m_getr (m_iload (m_ald (m_if1 (m_xgo hi) m_no)))))
theorem mobz_1797 : xBm bz_1797 := fun dl fs i1 i2 fin hi => (m_aload (m_getr (m_iload (m_aload (m_getr (m_iload (m_ald (m_ast (m_aload (m_getr (m_iload (m_aload (m_getr (m_iload (m_ald (m_iconst (m_if2 (m_xgo hi) (m_iconst (m_xgo hi)))))))))))))))))))
theorem mobz_1798 : xBm bz_1798 := fun dl fs i1 i2 fin hi => (m_aload (m_getr (m_iload (m_ald (m_iconst (m_if2 (m_xgo hi) (m_iconst (m_xgo hi))))))))
theorem mobz_1799 : xBm bz_1799 := fun dl fs i1 i2 fin hi => (m_iconst (m_ast (m_aload (m_getr (m_iload (m_ald (m_istore (m_xgo hi))))))))
theorem mobz_1800 : xBm bz_1800 := fun dl fs i1 i2 fin hi => (m_ast (m_aload (m_getr (m_iload (m_ald (m_istore (m_xgo hi)))))))
theorem mobz_1801 : xBm bz_1801 := fun dl fs i1 i2 fin hi => (m_ret hi)
theorem mobz_1802 : xBm bz_1802 := fun dl fs i1 i2 fin hi => (m_aload (m_getr (m_iload (m_ald (m_istore (m_aload (m_getr (m_iload (m_ald (m_if1 (m_xgo hi) (m_aload (m_getr (m_iload (m_aload (m_getr (m_aload (m_getr (m_iload (m_ald (m_ald (m_ast (m_aload (m_xgo hi)))))))))))))))))))))))
theorem mobz_1803 : xBm bz_1803 := fun dl fs i1 i2 fin hi => (m_aload (m_getr (m_iload (m_ald (m_if1 m_no (m_aload (m_getr (m_iload (m_iconst (m_aload (m_getr (m_iload (m_ald (m_bin (m_ast (m_xgo hi))))))))))))))))
theorem mobz_1804 : xBm bz_1804 := fun dl fs i1 i2 fin hi => (m_ret hi)
theorem mobz_1805 : xBm bz_1805 := fun dl fs i1 i2 fin hi => (m_iload (m_istore (m_iload (m_if1 (m_xgo hi) (m_aload (m_getr (m_iload (m_ald (m_iconst (m_if2 (m_xgo hi) (m_aload (m_aload (m_getr (m_iload (m_ald (m_iload (m_iload (m_aload (m_getr (m_iload (m_ald (m_callv hi))))))))))))))))))))))
theorem mobz_1806 : xBm bz_1806 := fun dl fs i1 i2 fin hi => (m_iload (m_if1 (m_xgo hi) (m_aload (m_getr (m_iload (m_ald (m_iconst (m_if2 (m_xgo hi) (m_aload (m_aload (m_getr (m_iload (m_ald (m_iload (m_iload (m_aload (m_getr (m_iload (m_ald (m_callv hi))))))))))))))))))))
theorem mobz_1807 : xBm bz_1807 := fun dl fs i1 i2 fin hi => (m_aload (m_getr (m_iload (m_ald (m_iconst (m_if2 (m_xgo hi) (m_aload (m_iload (m_callv hi)))))))))
theorem mobz_1808 : xBm bz_1808 := fun dl fs i1 i2 fin hi => (m_aload (m_getr (m_iload (m_ald (m_istore (m_iload (m_if1 (m_xgo hi) (m_aload (m_getr (m_iload (m_ald (m_if1 (m_xgo hi) (m_aload (m_iload (m_iload (m_callv hi))))))))))))))))
theorem mobz_1809 : xBm bz_1809 := fun dl fs i1 i2 fin hi => (m_iload (m_if1 (m_xgo hi) (m_aload (m_getr (m_iload (m_ald (m_if1 (m_xgo hi) (m_aload (m_iload (m_iload (m_callv hi)))))))))))
theorem mobz_1810 : xBm bz_1810 := fun dl fs i1 i2 fin hi => (m_aload (m_getr (m_iload (m_ald (m_istore (m_xgo hi))))))
theorem mobz_1811 : xBm bz_1811 := fun dl fs i1 i2 fin hi => (m_iload (m_istore (m_xgo hi)))
theorem mobz_1812 : xBm bz_1812 := fun dl fs i1 i2 fin hi => (m_ret hi)
theorem mobz_1813 : xBm bz_1813 := fun dl fs i1 i2 fin hi => (m_aload (m_getr (m_aload (m_getr (m_iload (m_ald (m_ald (m_iload (m_if2 (m_xgo hi) m_no)))))))))
theorem mobz_1814 : xBm bz_1814 := fun dl fs i1 i2 fin hi => (m_aload (m_getr (m_aload (m_getr (m_iload (m_ald (m_ald (m_istore (m_aload (m_getr (m_aload (m_getr (m_iload (m_ald (m_calls hi)))))))))))))))
theorem mobz_1815 : xBm bz_1815 := fun dl fs i1 i2 fin hi => (m_istore (m_iload (m_if1 (m_xgo hi) m_no)))
theorem mobz_1816 : xBm bz_1816 := fun dl fs i1 i2 fin hi => (m_iload (m_if1 (m_xgo hi) (m_aload (m_getr (m_iload (m_ald (m_if1 (m_xgo hi) (m_iload (m_iload (m_if2 (m_xgo hi) m_no))))))))))
theorem mobz_1817 : xBm bz_1817 := fun dl fs i1 i2 fin hi => (m_aload (m_getr (m_iload (m_ald (m_if1 (m_xgo hi) (m_aload (m_getr (m_iload (m_aload (m_geti (m_ast (m_xgo hi))))))))))))
theorem mobz_1818 : xBm bz_1818 := fun dl fs i1 i2 fin hi => (m_aload (m_getr (m_iload (m_dup2 (m_ald (m_iconst (m_bin (m_ast (m_aload (m_getr (m_aload (m_geti (m_iload (m_ast (m_aload (m_getr (m_aload (m_geti (m_iload (m_ast (m_aload (m_getr (m_xgo hi)))))))))))))))))))))))
theorem mobz_1819 : xBm bz_1819 := fun dl fs i1 i2 fin hi => (m_iload (m_iload (m_if2 (m_xgo hi) (m_aload (m_iload (m_iload (m_callv hi)))))))
theorem mobz_1820 : xBm bz_1820 := fun dl fs i1 i2 fin hi => (m_aload (m_getr (m_iload (m_ald (m_istore (m_xgo hi))))))
theorem mobz_1821 : xBm bz_1821 := fun dl fs i1 i2 fin hi => (m_aload (m_iload (m_callv hi)))
theorem mobz_1822 : xBm bz_1822 := fun dl fs i1 i2 fin hi => (m_aload (m_iload (m_callv hi)))
theorem mobz_1823 : xBm bz_1823 := fun dl fs i1 i2 fin hi => (m_iload (m_iret hi))
theorem mobz_1824 : xBm bz_1824 := fun dl fs i1 i2 fin hi => (m_aload (m_getr (m_aload (m_getr (m_iload (m_ald (m_calls hi)))))))
theorem mobz_1825 : xBm bz_1825 := fun dl fs i1 i2 fin hi => (m_istore (m_aload (m_getr (m_iload (m_ald (m_iconst (m_if2 (m_xgo hi) m_no)))))))
theorem mobz_1826 : xBm bz_1826 := fun dl fs i1 i2 fin hi => (m_iconst (m_istore (m_aload (m_geti (m_istore (m_iload (m_if1 (m_xgo hi) m_no)))))))
theorem mobz_1827 : xBm bz_1827 := fun dl fs i1 i2 fin hi => (m_aload (m_getr (m_iload (m_ald (m_istore (m_iload (m_if1 (m_xgo hi) (m_iload (m_if1 (m_xgo hi) m_no)))))))))
theorem mobz_1828 : xBm bz_1828 := fun dl fs i1 i2 fin hi => (m_iload (m_if1 (m_xgo hi) (m_iload (m_if1 (m_xgo hi) m_no))))
theorem mobz_1829 : xBm bz_1829 := fun dl fs i1 i2 fin hi => (m_aload (m_iload (m_callv hi)))
theorem mobz_1830 : xBm bz_1830 := fun dl fs i1 i2 fin hi => (m_aload (m_getr (m_iload (m_ald (m_istore (m_xgo hi))))))
theorem mobz_1831 : xBm bz_1831 := fun dl fs i1 i2 fin hi => (m_aload (m_iload (m_callv hi)))
theorem mobz_1832 : xBm bz_1832 := fun dl fs i1 i2 fin hi => (m_ret hi)
theorem mobz_1833 : xBm bz_1833 := fun dl fs i1 i2 fin hi => (m_aload (m_dup (m_geti (m_iconst (m_bin (m_puti (m_aload (m_iconst (m_puti (m_aload (m_aload (m_getr (m_iload (m_ald (m_iconst (m_callv hi))))))))))))))))
theorem mobz_1834 : xBm bz_1834 := fun dl fs i1 i2 fin hi => (m_aload (m_getr (m_aload (m_getr (m_iload (m_ald (m_ald (m_istore (m_aload (m_getr (m_iload (m_ald (m_iload (m_if2 (m_xgo hi) (m_aload (m_getr (m_iload (m_aload (m_geti (m_ast (m_ret hi)))))))))))))))))))))
theorem mobz_1835 : xBm bz_1835 := fun dl fs i1 i2 fin hi => (m_iload (m_istore (m_iload (m_if1 (m_xgo hi) (m_aload (m_getr (m_iload (m_ald (m_iconst (m_if2 (m_xgo hi) (m_aload (m_getr (m_aload (m_getr (m_iload (m_ald (m_ald (m_istore (m_iload (m_if1 (m_xgo hi) m_no))))))))))))))))))))
theorem mobz_1836 : xBm bz_1836 := fun dl fs i1 i2 fin hi => (m_iload (m_if1 (m_xgo hi) (m_aload (m_getr (m_iload (m_ald (m_iconst (m_if2 (m_xgo hi) (m_aload (m_getr (m_aload (m_getr (m_iload (m_ald (m_ald (m_istore (m_iload (m_if1 (m_xgo hi) m_no))))))))))))))))))
theorem mobz_1837 : xBm bz_1837 := fun dl fs i1 i2 fin hi => (m_aload (m_getr (m_iload (m_iload (m_ast (m_xgo hi))))))
theorem mobz_1838 : xBm bz_1838 := fun dl fs i1 i2 fin hi => (m_aload (m_getr (m_iload (m_ald (m_iconst (m_if2 (m_xgo hi) (m_aload (m_getr (m_iload (m_ald (m_istore (m_aload (m_getr (m_iload (m_ald (m_aload (m_geti (m_if2 (m_xgo hi) (m_iload (m_if1 (m_xgo hi) m_no))))))))))))))))))))
theorem mobz_1839 : xBm bz_1839 := fun dl fs i1 i2 fin hi => (m_aload (m_getr (m_iload (m_ald (m_aload (m_geti (m_if2 (m_xgo hi) (m_iload (m_if1 (m_xgo hi) (m_aload (m_getr (m_iload (m_aload (m_geti (m_ast (m_aload (m_getr (m_iload (m_aload (m_geti (m_ast (m_aload (m_xgo hi)))))))))))))))))))))))
theorem mobz_1840 : xBm bz_1840 := fun dl fs i1 i2 fin hi => (m_aload (m_getr (m_iload (m_aload (m_getr (m_iload (m_ald (m_ast (m_xgo hi)))))))))
theorem mobz_1841 : xBm bz_1841 := fun dl fs i1 i2 fin hi => (m_aload (m_getr (m_iload (m_aload (m_getr (m_iload (m_ald (m_ast (m_xgo hi)))))))))
theorem mobz_1842 : xBm bz_1842 := fun dl fs i1 i2 fin hi => (m_aload (m_getr (m_iload (m_ald (m_istore (m_iload (m_if1 (m_xgo hi) (m_aload (m_getr (m_iload (m_ald (m_if1 (m_xgo hi) (m_aload (m_iload (m_iload (m_callv hi))))))))))))))))
theorem mobz_1843 : xBm bz_1843 := fun dl fs i1 i2 fin hi => (m_iload (m_if1 (m_xgo hi) (m_aload (m_getr (m_iload (m_ald (m_if1 (m_xgo hi) (m_aload (m_iload (m_iload (m_callv hi)))))))))))
theorem mobz_1844 : xBm bz_1844 := fun dl fs i1 i2 fin hi => (m_aload (m_getr (m_iload (m_ald (m_istore (m_xgo hi))))))
theorem mobz_1845 : xBm bz_1845 := fun dl fs i1 i2 fin hi => (m_iload (m_istore (m_xgo hi)))
theorem mobz_1846 : xBm bz_1846 := fun dl fs i1 i2 fin hi => (m_ret hi)
theorem mobz_1847 : xBm bz_1847 := fun dl fs i1 i2 fin hi => (m_aload (m_geti (m_istore (m_iload (m_if1 (m_xgo hi) (m_aload (m_getr (m_iload (m_ald (m_iconst (m_if2 (m_xgo hi) (m_aload (m_iload (m_callv hi))))))))))))))
theorem mobz_1848 : xBm bz_1848 := fun dl fs i1 i2 fin hi => (m_iload (m_if1 (m_xgo hi) (m_aload (m_getr (m_iload (m_ald (m_iconst (m_if2 (m_xgo hi) (m_aload (m_iload (m_callv hi)))))))))))
theorem mobz_1849 : xBm bz_1849 := fun dl fs i1 i2 fin hi => (m_aload (m_getr (m_iload (m_ald (m_iconst (m_if2 (m_xgo hi) (m_aload (m_iload (m_callv hi)))))))))
theorem mobz_1850 : xBm bz_1850 := fun dl fs i1 i2 fin hi => (m_aload (m_getr (m_iload (m_ald (m_istore (m_xgo hi))))))
theorem mobz_1851 : xBm bz_1851 := fun dl fs i1 i2 fin hi => (m_aload (m_geti (m_istore (m_iload (m_if1 (m_xgo hi) (m_aload (m_getr (m_iload (m_ald (m_iconst (m_if2 (m_xgo hi) (m_aload (m_iload (m_callv hi))))))))))))))
theorem mobz_1852 : xBm bz_1852 := fun dl fs i1 i2 fin hi => (m_iload (m_if1 (m_xgo hi) (m_aload (m_getr (m_iload (m_ald (m_iconst (m_if2 (m_xgo hi) (m_aload (m_iload (m_callv hi)))))))))))
theorem mobz_1853 : xBm bz_1853 := fun dl fs i1 i2 fin hi => (m_aload (m_getr (m_iload (m_ald (m_iconst (m_if2 (m_xgo hi) (m_aload (m_iload (m_callv hi)))))))))
theorem mobz_1854 : xBm bz_1854 := fun dl fs i1 i2 fin hi => (m_aload (m_getr (m_iload (m_ald (m_iconst (m_if2 (m_xgo hi) (m_aload (m_iload (m_iload (m_callv hi))))))))))
theorem mobz_1855 : xBm bz_1855 := fun dl fs i1 i2 fin hi => (m_aload (m_getr (m_iload (m_ald (m_istore (m_xgo hi))))))
theorem mobz_1856 : xBm bz_1856 := fun dl fs i1 i2 fin hi => (m_iconst (m_istore (m_aload (m_geti (m_istore (m_iload (m_if1 (m_xgo hi) (m_aload (m_getr (m_iload (m_ald (m_iconst (m_if2 (m_xgo hi) (m_aload (m_iload (m_iload (m_iload (m_callv hi))))))))))))))))))
theorem mobz_1857 : xBm bz_1857 := fun dl fs i1 i2 fin hi => (m_iload (m_if1 (m_xgo hi) (m_aload (m_getr (m_iload (m_ald (m_iconst (m_if2 (m_xgo hi) (m_aload (m_iload (m_iload (m_iload (m_callv hi)))))))))))))
theorem mobz_1858 : xBm bz_1858 := fun dl fs i1 i2 fin hi => (m_istore (m_aload (m_getr (m_iload (m_ald (m_istore (m_xgo hi)))))))
theorem mobz_1859 : xBm bz_1859 := fun dl fs i1 i2 fin hi => (m_aload (m_getr (m_iload (m_ald (m_istore (m_xgo hi))))))
theorem mobz_1860 : xBm bz_1860 := fun dl fs i1 i2 fin hi => (m_ret hi)
theorem mobz_1861 : xBm bz_1861 := fun dl fs i1 i2 fin hi => (m_aload (m_geti (m_if1 (m_xgo hi) (m_aload (m_iload (m_callv hi))))))
theorem mobz_1862 : xBm bz_1862 := fun dl fs i1 i2 fin hi => (m_if1 (m_xgo hi) m_no)
theorem mobz_1863 : xBm bz_1863 := fun dl fs i1 i2 fin hi => (m_ret hi)
theorem mobz_1864 : xBm bz_1864 := fun dl fs i1 i2 fin hi => (m_iconst (m_istore (m_iload (m_istore (m_iload (m_iload (m_if2 (m_xgo hi) (m_iload (m_aload (m_aload (m_getr (m_iload (m_ald (m_iload (m_callv hi)))))))))))))))
theorem mobz_1865 : xBm bz_1865 := fun dl fs i1 i2 fin hi => (m_iload (m_iload (m_if2 (m_xgo hi) (m_iload (m_aload (m_aload (m_getr (m_iload (m_ald (m_iload (m_callv hi)))))))))))
theorem mobz_1866 : xBm bz_1866 := fun dl fs i1 i2 fin hi => (m_if1 (m_xgo hi) (m_iconst (m_xgo hi)))
theorem mobz_1867 : xBm bz_1867 := fun dl fs i1 i2 fin hi => (m_iconst (m_bin (m_istore (m_iinc (m_xgo hi)))))
theorem mobz_1868 : xBm bz_1868 := fun dl fs i1 i2 fin hi => (m_bin (m_istore (m_iinc (m_xgo hi))))
theorem mobz_1869 : xBm bz_1869 := fun dl fs i1 i2 fin hi => (m_iload (m_iret hi))
theorem mobz_1870 : xBm bz_1870 := fun dl fs i1 i2 fin hi => (m_aload (m_iload (m_iload (m_callv hi))))
theorem mobz_1871 : xBm bz_1871 := fun dl fs i1 i2 fin hi => (m_istore (m_iload (m_if1 (m_xgo hi) (m_aload (m_getr (m_iload (m_ald (m_iconst (m_if2 (m_xgo hi) (m_iconst (m_xgo hi)))))))))))
theorem mobz_1872 : xBm bz_1872 := fun dl fs i1 i2 fin hi => (m_iconst (m_zret hi))
theorem mobz_1873 : xBm bz_1873 := fun dl fs i1 i2 fin hi => (m_zret hi)
theorem mobz_1874 : xBm bz_1874 := fun dl fs i1 i2 fin hi => (m_aload (m_aload (m_geti (m_if1 (m_xgo hi) m_no))))
theorem mobz_1875 : xBm bz_1875 := fun dl fs i1 i2 fin hi => (m_iconst (m_puti (m_aload (m_geti (m_if1 m_no (m_iconst (m_iret hi)))))))
theorem mobz_1876 : xBm bz_1876 := fun dl fs i1 i2 fin hi => (m_aload (m_getr (m_iload (m_ald (m_istore (m_iconst (m_istore (m_iload (m_iload (m_if2 (m_xgo hi) (m_aload (m_getr (m_iload (m_ald (m_istore (m_iinc (m_xgo hi)))))))))))))))))
theorem mobz_1877 : xBm bz_1877 := fun dl fs i1 i2 fin hi => (m_iload (m_iload (m_if2 (m_xgo hi) (m_aload (m_getr (m_iload (m_ald (m_istore (m_iinc (m_xgo hi))))))))))
theorem mobz_1878 : xBm bz_1878 := fun dl fs i1 i2 fin hi => (m_iload (m_iret hi))
theorem mobz_1879 : xBm bz_1879 := fun dl fs i1 i2 fin hi => (m_aload (m_getr (m_iload (m_ald (m_istore (m_iload (m_istore (m_iload (m_calls hi)))))))))
theorem mobz_1880 : xBm bz_1880 := fun dl fs i1 i2 fin hi => (m_if1 (m_xgo hi) (m_iload (m_calls hi)))
theorem mobz_1881 : xBm bz_1881 := fun dl fs i1 i2 fin hi => (m_if1 (m_xgo hi) (m_iload (m_iload (m_if2 (m_xgo hi) (m_aload (m_getr (m_iload (m_ald (m_calls hi)))))))))
theorem mobz_1882 : xBm bz_1882 := fun dl fs i1 i2 fin hi => (m_iload (m_iload (m_if2 (m_xgo hi) (m_aload (m_getr (m_iload (m_ald (m_calls hi))))))))
theorem mobz_1883 : xBm bz_1883 := fun dl fs i1 i2 fin hi => (m_if1 (m_xgo hi) (m_iinc (m_xgo hi)))
theorem mobz_1884 : xBm bz_1884 := fun dl fs i1 i2 fin hi => (m_iload (m_calls hi))
theorem mobz_1885 : xBm bz_1885 := fun dl fs i1 i2 fin hi => (m_if1 (m_xgo hi) (m_aload (m_iload (m_iload (m_callv hi)))))
theorem mobz_1886 : xBm bz_1886 := fun dl fs i1 i2 fin hi => (m_xgo hi)
theorem mobz_1887 : xBm bz_1887 := fun dl fs i1 i2 fin hi => (m_iconst (m_istore (m_iload (m_calls hi))))
theorem mobz_1888 : xBm bz_1888 := fun dl fs i1 i2 fin hi => (m_istore (m_iload (m_calls hi)))
theorem mobz_1889 : xBm bz_1889 := fun dl fs i1 i2 fin hi => (m_if1 (m_xgo hi) (m_iconst (m_xgo hi)))
theorem mobz_1890 : xBm bz_1890 := fun dl fs i1 i2 fin hi => (m_iload (m_iconst (m_if2 (m_xgo hi) (m_iload (m_iload (m_bin (m_iconst (m_if2 (m_xgo hi) (m_iconst (m_xgo hi))))))))))
theorem mobz_1891 : xBm bz_1891 := fun dl fs i1 i2 fin hi => (m_iload (m_if1 (m_xgo hi) (m_iconst (m_iload (m_bin (m_xgo hi))))))
theorem mobz_1892 : xBm bz_1892 := fun dl fs i1 i2 fin hi => (m_iconst (m_istore (m_aload (m_iload (m_iload (m_iload (m_iconst (m_if2 (m_xgo hi) (m_iload (m_iconst (m_if2 (m_xgo hi) (m_xgo hi))))))))))))
theorem mobz_1893 : xBm bz_1893 := fun dl fs i1 i2 fin hi => (m_istore (m_aload (m_iload (m_iload (m_iload (m_iconst (m_if2 (m_xgo hi) (m_iload (m_iconst (m_if2 (m_xgo hi) (m_xgo hi)))))))))))
theorem mobz_1894 : xBm bz_1894 := fun dl fs i1 i2 fin hi => (m_aload (m_iload (m_iload (m_iload (m_bin (m_callv hi))))))
theorem mobz_1895 : xBm bz_1895 := fun dl fs i1 i2 fin hi => (m_xgo hi)
theorem mobz_1896 : xBm bz_1896 := fun dl fs i1 i2 fin hi => (m_iconst (m_callv hi))
theorem mobz_1897 : xBm bz_1897 := fun dl fs i1 i2 fin hi => (m_callv hi)
theorem mobz_1898 : xBm bz_1898 := fun dl fs i1 i2 fin hi => (m_iload (m_iret hi))
theorem mobz_1899 : xBm bz_1899 := fun dl fs i1 i2 fin hi => (m_iload (m_calls hi))
theorem mobz_1900 : xBm bz_1900 := fun dl fs i1 i2 fin hi => (m_if1 (m_xgo hi) (m_iconst (m_istore (m_iload (m_iload (m_if2 (m_xgo hi) (m_aload (m_getr (m_iload (m_ald (m_calls hi)))))))))))
theorem mobz_1901 : xBm bz_1901 := fun dl fs i1 i2 fin hi => (m_iload (m_iload (m_if2 (m_xgo hi) (m_aload (m_getr (m_iload (m_ald (m_calls hi))))))))
theorem mobz_1902 : xBm bz_1902 := fun dl fs i1 i2 fin hi => (m_if1 (m_xgo hi) (m_iload (m_iload (m_bin (m_iconst (m_if2 (m_xgo hi) (m_iconst (m_iload (m_bin (m_aload (m_getr (m_iload (m_ald (m_bin (m_iconst (m_bin (m_istore (m_iinc (m_xgo hi)))))))))))))))))))
theorem mobz_1903 : xBm bz_1903 := fun dl fs i1 i2 fin hi => (m_iload (m_iload (m_if2 (m_xgo hi) (m_aload (m_getr (m_iload (m_ald (m_calls hi))))))))
theorem mobz_1904 : xBm bz_1904 := fun dl fs i1 i2 fin hi => (m_if1 (m_xgo hi) m_no)
theorem mobz_1905 : xBm bz_1905 := fun dl fs i1 i2 fin hi => (m_aload (m_iconst (m_iload (m_iload (m_callv hi)))))
theorem mobz_1906 : xBm bz_1906 := fun dl fs i1 i2 fin hi => (m_iload (m_iret hi))
theorem mobz_1907 : xBm bz_1907 := fun dl fs i1 i2 fin hi => (m_iload (m_calls hi))
theorem mobz_1908 : xBm bz_1908 := fun dl fs i1 i2 fin hi => (m_if1 (m_xgo hi) (m_aload (m_iload (m_iload (m_callv hi)))))
theorem mobz_1909 : xBm bz_1909 := fun dl fs i1 i2 fin hi => (m_istore (m_aload (m_iload (m_iload (m_iload (m_bin (m_callv hi)))))))
theorem mobz_1910 : xBm bz_1910 := fun dl fs i1 i2 fin hi => (m_istore (m_aload (m_iload (m_iload (m_iload (m_iconst (m_if2 (m_xgo hi) (m_aload (m_iload (m_iload (m_iload (m_bin (m_callv hi)))))))))))))
theorem mobz_1911 : xBm bz_1911 := fun dl fs i1 i2 fin hi => (m_xgo hi)
theorem mobz_1912 : xBm bz_1912 := fun dl fs i1 i2 fin hi => (m_iconst (m_callv hi))
theorem mobz_1913 : xBm bz_1913 := fun dl fs i1 i2 fin hi => (m_callv hi)
theorem mobz_1914 : xBm bz_1914 := fun dl fs i1 i2 fin hi => (m_iload (m_iret hi))
theorem mobz_1915 : xBm bz_1915 := fun dl fs i1 i2 fin hi => (m_text (m_iload (m_callt hi)))
theorem mobz_1916 : xBm bz_1916 := fun dl fs i1 i2 fin hi => (m_istore (m_iload (m_if1 (m_xgo hi) m_no)))
theorem mobz_1917 : xBm bz_1917 := fun dl fs i1 i2 fin hi => (m_aload (m_iconst (m_iload (m_bin (m_iload (m_iconst (m_callv hi)))))))
theorem mobz_1918 : xBm bz_1918 := fun dl fs i1 i2 fin hi => (m_iload (m_iconst (m_bin (m_iret hi))))
theorem mobz_1919 : xBm bz_1919 := fun dl fs i1 i2 fin hi => (m_aload (m_iconst (m_callv hi)))
theorem mobz_1920 : xBm bz_1920 := fun dl fs i1 i2 fin hi => (m_if1 (m_xgo hi) (m_aload (m_getr (m_aload (m_geti (m_ald (m_istore (m_aload (m_iconst (m_callv hi))))))))))
theorem mobz_1921 : xBm bz_1921 := fun dl fs i1 i2 fin hi => (m_aload (m_iconst (m_callv hi)))
theorem mobz_1922 : xBm bz_1922 := fun dl fs i1 i2 fin hi => (m_iload (m_iret hi))
theorem mobz_1923 : xBm bz_1923 := fun dl fs i1 i2 fin hi => (m_aload (m_getr (m_aload (m_geti (m_ald (m_istore (m_aload (m_iconst (m_callv hi)))))))))
theorem mobz_1924 : xBm bz_1924 := fun dl fs i1 i2 fin hi => (m_iload (m_iret hi))
theorem mobz_1925 : xBm bz_1925 := fun dl fs i1 i2 fin hi => (m_aload (m_geti (m_istore (m_aload (m_aload (m_geti (m_callv hi)))))))
theorem mobz_1926 : xBm bz_1926 := fun dl fs i1 i2 fin hi => (m_istore (m_aload (m_callv hi)))
theorem mobz_1927 : xBm bz_1927 := fun dl fs i1 i2 fin hi => (m_istore (m_aload (m_geti (m_if1 (m_xgo hi) m_no))))
theorem mobz_1928 : xBm bz_1928 := fun dl fs i1 i2 fin hi => (m_aload (m_iload (m_if1 (m_xgo hi) (m_iconst (m_xgo hi)))))
theorem mobz_1929 : xBm bz_1929 := fun dl fs i1 i2 fin hi => (m_iconst (m_iload (m_iload (m_if1 (m_xgo hi) (m_iconst (m_xgo hi))))))
theorem mobz_1930 : xBm bz_1930 := fun dl fs i1 i2 fin hi => (m_iload (m_iload (m_if1 (m_xgo hi) (m_iconst (m_xgo hi)))))
theorem mobz_1931 : xBm bz_1931 := fun dl fs i1 i2 fin hi => (m_iload (m_callv hi))
theorem mobz_1932 : xBm bz_1932 := fun dl fs i1 i2 fin hi => (m_callv hi)
theorem mobz_1933 : xBm bz_1933 := fun dl fs i1 i2 fin hi => (m_iret hi)
theorem mobz_1934 : xBm bz_1934 := fun dl fs i1 i2 fin hi => (m_iload (m_if1 (m_xgo hi) (m_aload (m_text (m_callv hi)))))
theorem mobz_1935 : xBm bz_1935 := fun dl fs i1 i2 fin hi => (m_xgo hi)
theorem mobz_1936 : xBm bz_1936 := fun dl fs i1 i2 fin hi => (m_iload (m_iconst (m_if2 (m_xgo hi) (m_aload (m_iconst (m_callv hi))))))
theorem mobz_1937 : xBm bz_1937 := fun dl fs i1 i2 fin hi => (m_xgo hi)
theorem mobz_1938 : xBm bz_1938 := fun dl fs i1 i2 fin hi => (m_iload (m_iconst (m_if2 (m_xgo hi) m_no)))
theorem mobz_1939 : xBm bz_1939 := fun dl fs i1 i2 fin hi => (m_iload (m_iconst (m_if2 (m_xgo hi) (m_aload (m_aload (m_getr (m_iload (m_ald (m_callv hi)))))))))
theorem mobz_1940 : xBm bz_1940 := fun dl fs i1 i2 fin hi => (m_ret hi)
theorem mobz_1941 : xBm bz_1941 := fun dl fs i1 i2 fin hi => (m_aload (m_geti (m_if1 (m_xgo hi) m_no)))
theorem mobz_1942 : xBm bz_1942 := fun dl fs i1 i2 fin hi => (m_aload (m_geti (m_istore (m_aload (m_iconst (m_callv hi))))))
theorem mobz_1943 : xBm bz_1943 := fun dl fs i1 i2 fin hi => (m_if1 (m_xgo hi) m_no)
theorem mobz_1944 : xBm bz_1944 := fun dl fs i1 i2 fin hi => (m_aload (m_callv hi))
theorem mobz_1945 : xBm bz_1945 := fun dl fs i1 i2 fin hi => (m_istore (m_aload (m_geti (m_if1 (m_xgo hi) (m_aload (m_callv hi))))))
theorem mobz_1946 : xBm bz_1946 := fun dl fs i1 i2 fin hi => (m_if1 (m_xgo hi) (m_iload (m_iret hi)))
theorem mobz_1947 : xBm bz_1947 := fun dl fs i1 i2 fin hi => (m_iload (m_iret hi))
theorem mobz_1948 : xBm bz_1948 := fun dl fs i1 i2 fin hi => (m_aload (m_iconst (m_iload (m_iconst (m_callv hi)))))
theorem mobz_1949 : xBm bz_1949 := fun dl fs i1 i2 fin hi => (m_istore (m_aload (m_iload (m_iconst (m_iload (m_callv hi))))))
theorem mobz_1950 : xBm bz_1950 := fun dl fs i1 i2 fin hi => (m_istore (m_aload (m_geti (m_if1 (m_xgo hi) (m_aload (m_callv hi))))))
theorem mobz_1951 : xBm bz_1951 := fun dl fs i1 i2 fin hi => (m_aload (m_geti (m_if1 (m_xgo hi) (m_aload (m_callv hi)))))
theorem mobz_1952 : xBm bz_1952 := fun dl fs i1 i2 fin hi => (m_if1 (m_xgo hi) (m_aload (m_iload (m_iload (m_aload (m_callv hi))))))
theorem mobz_1953 : xBm bz_1953 := fun dl fs i1 i2 fin hi => (m_callv hi)
theorem mobz_1954 : xBm bz_1954 := fun dl fs i1 i2 fin hi => (m_istore (m_xgo hi))
theorem mobz_1955 : xBm bz_1955 := fun dl fs i1 i2 fin hi => (m_iload (m_iret hi))
theorem mobz_1956 : xBm bz_1956 := fun dl fs i1 i2 fin hi => (m_aload (m_geti (m_istore (m_aload (m_geti (m_if1 (m_xgo hi) m_no))))))
theorem mobz_1957 : xBm bz_1957 := fun dl fs i1 i2 fin hi => (m_aload (m_iconst (m_callv hi)))
theorem mobz_1958 : xBm bz_1958 := fun dl fs i1 i2 fin hi => (m_if1 (m_xgo hi) (m_aload (m_iconst (m_iload (m_iconst (m_callv hi))))))
theorem mobz_1959 : xBm bz_1959 := fun dl fs i1 i2 fin hi => (m_iret hi)
theorem mobz_1960 : xBm bz_1960 := fun dl fs i1 i2 fin hi => (m_aload (m_iconst (m_callv hi)))
theorem mobz_1961 : xBm bz_1961 := fun dl fs i1 i2 fin hi => (m_if1 (m_xgo hi) m_no)
theorem mobz_1962 : xBm bz_1962 := fun dl fs i1 i2 fin hi => (m_aload (m_iconst (m_callv hi)))
theorem mobz_1963 : xBm bz_1963 := fun dl fs i1 i2 fin hi => (m_if1 (m_xgo hi) (m_aload (m_iconst (m_iload (m_iconst (m_aload (m_getr (m_iload (m_ald (m_bin (m_callv hi)))))))))))
theorem mobz_1964 : xBm bz_1964 := fun dl fs i1 i2 fin hi => (m_iret hi)
theorem mobz_1965 : xBm bz_1965 := fun dl fs i1 i2 fin hi => (m_aload (m_callv hi))
theorem mobz_1966 : xBm bz_1966 := fun dl fs i1 i2 fin hi => (m_iconst (m_if2 (m_xgo hi) (m_aload (m_callv hi))))
theorem mobz_1967 : xBm bz_1967 := fun dl fs i1 i2 fin hi => (m_iconst (m_if2 (m_xgo hi) m_no))
theorem mobz_1968 : xBm bz_1968 := fun dl fs i1 i2 fin hi => (m_aload (m_callv hi))
theorem mobz_1969 : xBm bz_1969 := fun dl fs i1 i2 fin hi => (m_iconst (m_if2 (m_xgo hi) (m_iconst (m_xgo hi))))
theorem mobz_1970 : xBm bz_1970 := fun dl fs i1 i2 fin hi => (m_iconst (m_istore (m_aload (m_callv hi))))
theorem mobz_1971 : xBm bz_1971 := fun dl fs i1 i2 fin hi => (m_istore (m_aload (m_callv hi)))
theorem mobz_1972 : xBm bz_1972 := fun dl fs i1 i2 fin hi => (m_aload (m_iload (m_if1 (m_xgo hi) (m_iconst (m_xgo hi)))))
theorem mobz_1973 : xBm bz_1973 := fun dl fs i1 i2 fin hi => (m_iconst (m_iload (m_iconst (m_callv hi))))
theorem mobz_1974 : xBm bz_1974 := fun dl fs i1 i2 fin hi => (m_iload (m_iconst (m_callv hi)))
theorem mobz_1975 : xBm bz_1975 := fun dl fs i1 i2 fin hi => (m_istore (m_aload (m_iload (m_if1 (m_xgo hi) (m_iconst (m_xgo hi))))))
theorem mobz_1976 : xBm bz_1976 := fun dl fs i1 i2 fin hi => (m_iconst (m_callv hi))
theorem mobz_1977 : xBm bz_1977 := fun dl fs i1 i2 fin hi => (m_callv hi)
theorem mobz_1978 : xBm bz_1978 := fun dl fs i1 i2 fin hi => (m_if1 (m_xgo hi) (m_aload (m_dup (m_geti (m_iconst (m_bin (m_puti (m_iload (m_iret hi)))))))))
theorem mobz_1979 : xBm bz_1979 := fun dl fs i1 i2 fin hi => (m_aload (m_iload (m_iconst (m_aload (m_callv hi)))))
theorem mobz_1980 : xBm bz_1980 := fun dl fs i1 i2 fin hi => (m_callv hi)
theorem mobz_1981 : xBm bz_1981 := fun dl fs i1 i2 fin hi => (m_istore (m_iconst (m_istore (m_aload (m_geti (m_if1 (m_xgo hi) (m_iload (m_if1 (m_xgo hi) (m_iload (m_iconst (m_if2 (m_xgo hi) (m_aload (m_iconst (m_callv hi))))))))))))))
theorem mobz_1982 : xBm bz_1982 := fun dl fs i1 i2 fin hi => (m_if1 (m_xgo hi) m_no)
theorem mobz_1983 : xBm bz_1983 := fun dl fs i1 i2 fin hi => (m_aload (m_iload (m_if1 (m_xgo hi) m_no)))
theorem mobz_1984 : xBm bz_1984 := fun dl fs i1 i2 fin hi => (m_iconst (m_callv hi))
theorem mobz_1985 : xBm bz_1985 := fun dl fs i1 i2 fin hi => (m_iload (m_if1 (m_xgo hi) m_no))
theorem mobz_1986 : xBm bz_1986 := fun dl fs i1 i2 fin hi => (m_iload (m_iconst (m_if2 m_no (m_aload (m_getr (m_iload (m_ald (m_iret hi))))))))
theorem mobz_1987 : xBm bz_1987 := fun dl fs i1 i2 fin hi => (m_aload (m_geti (m_istore (m_aload (m_dup (m_geti (m_iconst (m_bin (m_puti (m_aload (m_getr (m_iload (m_iload (m_un (m_ast (m_aload (m_getr (m_iload (m_iload (m_ast (m_aload (m_getr (m_xgo hi)))))))))))))))))))))))
theorem mobz_1988 : xBm bz_1988 := fun dl fs i1 i2 fin hi => (m_aload (m_callv hi))
theorem mobz_1989 : xBm bz_1989 := fun dl fs i1 i2 fin hi => (m_istore (m_iload (m_istore (m_iconst (m_istore (m_aload (m_geti (m_if1 (m_xgo hi) (m_aload (m_aload (m_geti (m_callv hi))))))))))))
theorem mobz_1990 : xBm bz_1990 := fun dl fs i1 i2 fin hi => (m_aload (m_geti (m_if1 (m_xgo hi) (m_aload (m_aload (m_geti (m_callv hi)))))))
theorem mobz_1991 : xBm bz_1991 := fun dl fs i1 i2 fin hi => (m_if1 (m_xgo hi) (m_aload (m_iconst (m_aload (m_geti (m_iconst (m_callv hi)))))))
theorem mobz_1992 : xBm bz_1992 := fun dl fs i1 i2 fin hi => (m_istore (m_aload (m_dup (m_geti (m_iconst (m_bin (m_puti (m_aload (m_getr (m_iload (m_iload (m_ast (m_iload (m_if1 m_no (m_iload (m_istore (m_xgo hi)))))))))))))))))
theorem mobz_1993 : xBm bz_1993 := fun dl fs i1 i2 fin hi => (m_iload (m_istore (m_aload (m_callv hi))))
theorem mobz_1994 : xBm bz_1994 := fun dl fs i1 i2 fin hi => (m_istore (m_aload (m_geti (m_if1 (m_xgo hi) (m_aload (m_getr (m_aload (m_getr (m_iload (m_ald (m_iload (m_ast (m_xgo hi)))))))))))))
theorem mobz_1995 : xBm bz_1995 := fun dl fs i1 i2 fin hi => (m_iload (m_iret hi))
theorem mobz_1996 : xBm bz_1996 := fun dl fs i1 i2 fin hi => (m_aload (m_getr (m_iload (m_ald (m_if1 (m_xgo hi) (m_aload (m_aload (m_geti (m_if1 (m_xgo hi) m_no)))))))))
theorem mobz_1997 : xBm bz_1997 := fun dl fs i1 i2 fin hi => (m_aload (m_aload (m_getr (m_iload (m_ald (m_aload (m_getr (m_iload (m_ald (m_callv hi))))))))))
theorem mobz_1998 : xBm bz_1998 := fun dl fs i1 i2 fin hi => (m_callv hi)
theorem mobz_1999 : xBm bz_1999 := fun dl fs i1 i2 fin hi => (m_iret hi)
theorem mobz_2000 : xBm bz_2000 := fun dl fs i1 i2 fin hi => (m_aload (m_aload (m_aload (m_iload (m_aload (m_getr (m_iload (m_ald (m_callv hi)))))))))
theorem mobz_2001 : xBm bz_2001 := fun dl fs i1 i2 fin hi => (m_aload (m_getr (m_iload (m_ald (m_callv hi)))))
theorem mobz_2002 : xBm bz_2002 := fun dl fs i1 i2 fin hi => (m_callv hi)
theorem mobz_2003 : xBm bz_2003 := fun dl fs i1 i2 fin hi => (m_iret hi)
theorem mobz_2004 : xBm bz_2004 := fun dl fs i1 i2 fin hi => (m_aload (m_aload (m_getr (m_iload (m_ald (m_callv hi))))))
theorem mobz_2005 : xBm bz_2005 := fun dl fs i1 i2 fin hi => (m_iconst (m_bin (m_iret hi)))
theorem mobz_2006 : xBm bz_2006 := fun dl fs i1 i2 fin hi => (m_aload (m_getr (m_iload (m_ald (m_if1 (m_xgo hi) m_no)))))
theorem mobz_2007 : xBm bz_2007 := fun dl fs i1 i2 fin hi => (m_aload (m_aload (m_getr (m_iload (m_ald (m_iconst (m_bin (m_i2l (m_callvL hi)))))))))
theorem mobz_2008 : xBm bz_2008 := fun dl fs i1 i2 fin hi => (m_ret hi)
theorem mobz_2009 : xBm bz_2009 := fun dl fs i1 i2 fin hi => (m_iconst (m_istore (m_iload (m_iconst (m_if2 (m_xgo hi) (m_aload (m_getr (m_iload (m_iconst (m_ast (m_iinc (m_xgo hi))))))))))))
theorem mobz_2010 : xBm bz_2010 := fun dl fs i1 i2 fin hi => (m_iload (m_iconst (m_if2 (m_xgo hi) (m_aload (m_getr (m_iload (m_iconst (m_ast (m_iinc (m_xgo hi))))))))))
theorem mobz_2011 : xBm bz_2011 := fun dl fs i1 i2 fin hi => (m_aload (m_iconst (m_puti (m_aload (m_iconst (m_puti (m_aload (m_iconst (m_puti (m_aload (m_iconst (m_puti (m_aload (m_iconst (m_puti (m_aload (m_iconst (m_puti (m_aload (m_iconst (m_puti (m_aload (m_xgo hi)))))))))))))))))))))))
theorem mobz_2012 : xBm bz_2012 := fun dl fs i1 i2 fin hi => (m_text (m_callt hi))
theorem mobz_2013 : xBm bz_2013 := fun dl fs i1 i2 fin hi => (m_istore (m_iconst (m_istore (m_iload (m_iload (m_if2 (m_xgo hi) (m_aload (m_getr (m_iload (m_text (m_iload (m_callt hi))))))))))))
theorem mobz_2014 : xBm bz_2014 := fun dl fs i1 i2 fin hi => (m_iload (m_iload (m_if2 (m_xgo hi) (m_aload (m_getr (m_iload (m_text (m_iload (m_callt hi)))))))))
theorem mobz_2015 : xBm bz_2015 := fun dl fs i1 i2 fin hi => (m_un (m_ast (m_iinc (m_xgo hi))))
theorem mobz_2016 : xBm bz_2016 := fun dl fs i1 i2 fin hi => (m_aload (m_iconst (m_iload (m_iconst (m_iconst (m_callv hi))))))
theorem mobz_2017 : xBm bz_2017 := fun dl fs i1 i2 fin hi => (m_istore (m_aload (m_aload (m_geti (m_puti (m_iconst (m_istore (m_iload (m_iload (m_if2 (m_xgo hi) m_no))))))))))
theorem mobz_2018 : xBm bz_2018 := fun dl fs i1 i2 fin hi => (m_aload (m_iload (m_iload (m_iload (m_bin (m_aload (m_geti (m_iload (m_callv hi)))))))))
theorem mobz_2019 : xBm bz_2019 := fun dl fs i1 i2 fin hi => (m_istore (m_iload (m_if1 (m_xgo hi) m_no)))
theorem mobz_2020 : xBm bz_2020 := fun dl fs i1 i2 fin hi => (m_iconst (m_istore (m_iload (m_aload (m_geti (m_if2 (m_xgo hi) (m_aload (m_iload (m_callv hi)))))))))
theorem mobz_2021 : xBm bz_2021 := fun dl fs i1 i2 fin hi => (m_iload (m_aload (m_geti (m_if2 (m_xgo hi) (m_aload (m_iload (m_callv hi)))))))
theorem mobz_2022 : xBm bz_2022 := fun dl fs i1 i2 fin hi => (m_iinc (m_xgo hi))
theorem mobz_2023 : xBm bz_2023 := fun dl fs i1 i2 fin hi => (m_aload (m_iconst (m_callv hi)))
theorem mobz_2024 : xBm bz_2024 := fun dl fs i1 i2 fin hi => (m_aload (m_callv hi))
theorem mobz_2025 : xBm bz_2025 := fun dl fs i1 i2 fin hi => (m_iload (m_if1 (m_xgo hi) (m_iconst (m_iret hi))))
theorem mobz_2026 : xBm bz_2026 := fun dl fs i1 i2 fin hi => (m_iconst (m_istore (m_iload (m_iload (m_if2 (m_xgo hi) m_no)))))
theorem mobz_2027 : xBm bz_2027 := fun dl fs i1 i2 fin hi => (m_aload (m_iload (m_iload (m_bin (m_iload (m_iload (m_bin (m_iload (m_bin (m_callv hi))))))))))
theorem mobz_2028 : xBm bz_2028 := fun dl fs i1 i2 fin hi => (m_iret hi)
theorem mobz_2029 : xBm bz_2029 := fun dl fs i1 i2 fin hi => (m_aload (m_geti (m_istore (m_aload (m_geti (m_istore (m_aload (m_geti (m_istore (m_aload (m_iload (m_iload (m_callv hi)))))))))))))
theorem mobz_2030 : xBm bz_2030 := fun dl fs i1 i2 fin hi => (m_istore (m_iload (m_if1 (m_xgo hi) m_no)))
theorem mobz_2031 : xBm bz_2031 := fun dl fs i1 i2 fin hi => (m_iload (m_if1 (m_xgo hi) (m_aload (m_callv hi))))
theorem mobz_2032 : xBm bz_2032 := fun dl fs i1 i2 fin hi => (m_aload (m_iload (m_puti (m_aload (m_iconst (m_puti (m_aload (m_iconst (m_puti (m_aload (m_iconst (m_puti (m_aload (m_iconst (m_puti (m_aload (m_aload (m_geti (m_iconst (m_bin (m_callv hi)))))))))))))))))))))
theorem mobz_2033 : xBm bz_2033 := fun dl fs i1 i2 fin hi => (m_aload (m_geti (m_if1 (m_xgo hi) m_no)))
theorem mobz_2034 : xBm bz_2034 := fun dl fs i1 i2 fin hi => (m_aload (m_iconst (m_puti (m_aload (m_iload (m_callv hi))))))
theorem mobz_2035 : xBm bz_2035 := fun dl fs i1 i2 fin hi => (m_aload (m_geti (m_if1 (m_xgo hi) m_no)))
theorem mobz_2036 : xBm bz_2036 := fun dl fs i1 i2 fin hi => (m_aload (m_iload (m_callv hi)))
theorem mobz_2037 : xBm bz_2037 := fun dl fs i1 i2 fin hi => (m_aload (m_geti (m_if1 (m_xgo hi) m_no)))
theorem mobz_2038 : xBm bz_2038 := fun dl fs i1 i2 fin hi => (m_aload (m_iload (m_callv hi)))
theorem mobz_2039 : xBm bz_2039 := fun dl fs i1 i2 fin hi => (m_aload (m_iload (m_callv hi)))
theorem mobz_2040 : xBm bz_2040 := fun dl fs i1 i2 fin hi => (m_aload (m_iload (m_iload (m_callv hi))))
theorem mobz_2041 : xBm bz_2041 := fun dl fs i1 i2 fin hi => (m_aload (m_geti (m_if1 (m_xgo hi) m_no)))
theorem mobz_2042 : xBm bz_2042 := fun dl fs i1 i2 fin hi => (m_iload (m_istore (m_iload (m_aload (m_geti (m_if2 (m_xgo hi) (m_aload (m_getr (m_iload (m_aload (m_getr (m_aload (m_getr (m_iload (m_ald (m_ald (m_ast (m_iinc (m_xgo hi)))))))))))))))))))
theorem mobz_2043 : xBm bz_2043 := fun dl fs i1 i2 fin hi => (m_iload (m_aload (m_geti (m_if2 (m_xgo hi) (m_aload (m_getr (m_iload (m_aload (m_getr (m_aload (m_getr (m_iload (m_ald (m_ald (m_ast (m_iinc (m_xgo hi)))))))))))))))))
theorem mobz_2044 : xBm bz_2044 := fun dl fs i1 i2 fin hi => (m_aload (m_iload (m_callv hi)))
theorem mobz_2045 : xBm bz_2045 := fun dl fs i1 i2 fin hi => (m_aload (m_iconst (m_puti (m_iload (m_istore (m_iload (m_aload (m_geti (m_if2 (m_xgo hi) (m_iload (m_if1 (m_xgo hi) m_no)))))))))))
theorem mobz_2046 : xBm bz_2046 := fun dl fs i1 i2 fin hi => (m_iconst (m_iret hi))
theorem mobz_2047 : xBm bz_2047 := fun dl fs i1 i2 fin hi => (m_aload (m_geti (m_istore (m_aload (m_geti (m_istore (m_aload (m_iload (m_iload (m_callv hi))))))))))
theorem mobz_2048 : xBm bz_2048 := fun dl fs i1 i2 fin hi => (m_istore (m_iload (m_if1 (m_xgo hi) m_no)))
theorem mobz_2049 : xBm bz_2049 := fun dl fs i1 i2 fin hi => (m_aload (m_iload (m_puti (m_aload (m_iconst (m_puti (m_aload (m_iconst (m_puti (m_aload (m_iconst (m_puti (m_aload (m_aload (m_callv hi)))))))))))))))
theorem mobz_2050 : xBm bz_2050 := fun dl fs i1 i2 fin hi => (m_puti (m_aload (m_aload (m_iconst (m_callv hi)))))
theorem mobz_2051 : xBm bz_2051 := fun dl fs i1 i2 fin hi => (m_if1 (m_xgo hi) m_no)
theorem mobz_2052 : xBm bz_2052 := fun dl fs i1 i2 fin hi => (m_iconst (m_puti (m_aload (m_iconst (m_callv hi)))))
theorem mobz_2053 : xBm bz_2053 := fun dl fs i1 i2 fin hi => (m_aload (m_geti (m_if1 (m_xgo hi) m_no)))
theorem mobz_2054 : xBm bz_2054 := fun dl fs i1 i2 fin hi => (m_aload (m_geti (m_if1 m_no (m_aload (m_iconst (m_aload (m_getr (m_aload (m_geti (m_ald (m_iload (m_bin (m_callv hi)))))))))))))
theorem mobz_2055 : xBm bz_2055 := fun dl fs i1 i2 fin hi => (m_iret hi)
theorem mobz_2056 : xBm bz_2056 := fun dl fs i1 i2 fin hi => (m_aload (m_geti (m_istore (m_aload (m_aload (m_callv hi))))))
theorem mobz_2057 : xBm bz_2057 := fun dl fs i1 i2 fin hi => (m_iconst (m_if2 (m_xgo hi) m_no))
theorem mobz_2058 : xBm bz_2058 := fun dl fs i1 i2 fin hi => (m_iconst (m_aload (m_geti (m_iconst (m_callv hi)))))
theorem mobz_2059 : xBm bz_2059 := fun dl fs i1 i2 fin hi => (m_istore (m_iconst (m_istore (m_aload (m_callv hi)))))
theorem mobz_2060 : xBm bz_2060 := fun dl fs i1 i2 fin hi => (m_iconst (m_if2 (m_xgo hi) m_no))
theorem mobz_2061 : xBm bz_2061 := fun dl fs i1 i2 fin hi => (m_aload (m_iconst (m_callv hi)))
theorem mobz_2062 : xBm bz_2062 := fun dl fs i1 i2 fin hi => (m_aload (m_geti (m_if1 m_no (m_aload (m_iload (m_iload (m_aload (m_callv hi))))))))
theorem mobz_2063 : xBm bz_2063 := fun dl fs i1 i2 fin hi => (m_callv hi)
theorem mobz_2064 : xBm bz_2064 := fun dl fs i1 i2 fin hi => (m_xgo hi)
theorem mobz_2065 : xBm bz_2065 := fun dl fs i1 i2 fin hi => (m_istore (m_aload (m_iconst (m_callv hi))))
theorem mobz_2066 : xBm bz_2066 := fun dl fs i1 i2 fin hi => (m_if1 (m_xgo hi) m_no)
theorem mobz_2067 : xBm bz_2067 := fun dl fs i1 i2 fin hi => (m_aload (m_getr (m_iload (m_aload (m_geti (m_iload (m_bin (m_ast (m_aload (m_getr (m_iload (m_aload (m_geti (m_ast (m_iload (m_iret hi))))))))))))))))
theorem mobz_2068 : xBm bz_2068 := fun dl fs i1 i2 fin hi => (m_aload (m_callv hi))
theorem mobz_2069 : xBm bz_2069 := fun dl fs i1 i2 fin hi => (m_istore (m_aload (m_geti (m_if1 (m_xgo hi) (m_aload (m_aload (m_geti (m_callv hi))))))))
theorem mobz_2070 : xBm bz_2070 := fun dl fs i1 i2 fin hi => (m_if1 (m_xgo hi) (m_iload (m_iret hi)))
theorem mobz_2071 : xBm bz_2071 := fun dl fs i1 i2 fin hi => (m_iload (m_iret hi))
theorem mobz_2072 : xBm bz_2072 := fun dl fs i1 i2 fin hi => (m_aload (m_geti (m_istore (m_aload (m_iconst (m_iload (m_iconst (m_callv hi))))))))
theorem mobz_2073 : xBm bz_2073 := fun dl fs i1 i2 fin hi => (m_istore (m_aload (m_iload (m_iconst (m_iload (m_callv hi))))))
theorem mobz_2074 : xBm bz_2074 := fun dl fs i1 i2 fin hi => (m_istore (m_iconst (m_istore (m_aload (m_geti (m_if1 (m_xgo hi) (m_aload (m_aload (m_geti (m_callv hi))))))))))
theorem mobz_2075 : xBm bz_2075 := fun dl fs i1 i2 fin hi => (m_aload (m_geti (m_if1 (m_xgo hi) (m_aload (m_aload (m_geti (m_callv hi)))))))
theorem mobz_2076 : xBm bz_2076 := fun dl fs i1 i2 fin hi => (m_if1 (m_xgo hi) (m_iload (m_iconst (m_if2 (m_xgo hi) m_no))))
theorem mobz_2077 : xBm bz_2077 := fun dl fs i1 i2 fin hi => (m_aload (m_callv hi))
theorem mobz_2078 : xBm bz_2078 := fun dl fs i1 i2 fin hi => (m_istore (m_aload (m_geti (m_if1 (m_xgo hi) m_no))))
theorem mobz_2079 : xBm bz_2079 := fun dl fs i1 i2 fin hi => (m_aload (m_iload (m_iload (m_iload (m_callv hi)))))
theorem mobz_2080 : xBm bz_2080 := fun dl fs i1 i2 fin hi => (m_istore (m_iinc (m_iload (m_if1 (m_xgo hi) m_no))))
theorem mobz_2081 : xBm bz_2081 := fun dl fs i1 i2 fin hi => (m_aload (m_callv hi))
theorem mobz_2082 : xBm bz_2082 := fun dl fs i1 i2 fin hi => (m_istore (m_aload (m_iload (m_iload (m_iload (m_if1 (m_xgo hi) m_no))))))
theorem mobz_2083 : xBm bz_2083 := fun dl fs i1 i2 fin hi => (m_aload (m_callv hi))
theorem mobz_2084 : xBm bz_2084 := fun dl fs i1 i2 fin hi => (m_callv hi)
theorem mobz_2085 : xBm bz_2085 := fun dl fs i1 i2 fin hi => (m_istore (m_iload (m_if1 (m_xgo hi) m_no)))
theorem mobz_2086 : xBm bz_2086 := fun dl fs i1 i2 fin hi => (m_xgo hi)
theorem mobz_2087 : xBm bz_2087 := fun dl fs i1 i2 fin hi => (m_aload (m_getr (m_iload (m_iload (m_ast (m_iload (m_iret hi)))))))
theorem mobz_2088 : xBm bz_2088 := fun dl fs i1 i2 fin hi => (m_aload (m_geti (m_istore (m_aload (m_callv hi)))))
theorem mobz_2089 : xBm bz_2089 := fun dl fs i1 i2 fin hi => (m_iconst (m_if2 (m_xgo hi) (m_iconst (m_xgo hi))))
theorem mobz_2090 : xBm bz_2090 := fun dl fs i1 i2 fin hi => (m_iconst (m_istore (m_iconst (m_istore (m_iload (m_if1 (m_xgo hi) (m_aload (m_getr (m_aload (m_geti (m_iconst (m_bin (m_ald (m_iconst (m_if2 (m_xgo hi) (m_xgo hi))))))))))))))))
theorem mobz_2091 : xBm bz_2091 := fun dl fs i1 i2 fin hi => (m_istore (m_iconst (m_istore (m_iload (m_if1 (m_xgo hi) (m_aload (m_getr (m_aload (m_geti (m_iconst (m_bin (m_ald (m_iconst (m_if2 (m_xgo hi) (m_xgo hi)))))))))))))))
theorem mobz_2092 : xBm bz_2092 := fun dl fs i1 i2 fin hi => (m_aload (m_callv hi))
theorem mobz_2093 : xBm bz_2093 := fun dl fs i1 i2 fin hi => (m_istore (m_aload (m_geti (m_if1 (m_xgo hi) (m_aload (m_callv hi))))))
theorem mobz_2094 : xBm bz_2094 := fun dl fs i1 i2 fin hi => (m_if1 (m_xgo hi) m_no)
theorem mobz_2095 : xBm bz_2095 := fun dl fs i1 i2 fin hi => (m_aload (m_dup (m_geti (m_iconst (m_bin (m_puti (m_aload (m_callv hi))))))))
theorem mobz_2096 : xBm bz_2096 := fun dl fs i1 i2 fin hi => (m_if1 (m_xgo hi) (m_aload (m_iconst (m_iload (m_aload (m_getr (m_iload (m_ald (m_callv hi)))))))))
theorem mobz_2097 : xBm bz_2097 := fun dl fs i1 i2 fin hi => (m_istore (m_aload (m_iconst (m_iload (m_aload (m_getr (m_iload (m_ald (m_callv hi)))))))))
theorem mobz_2098 : xBm bz_2098 := fun dl fs i1 i2 fin hi => (m_aload (m_iconst (m_iload (m_aload (m_getr (m_iload (m_ald (m_callv hi))))))))
theorem mobz_2099 : xBm bz_2099 := fun dl fs i1 i2 fin hi => (m_istore (m_aload (m_getr (m_iload (m_iload (m_ast (m_iconst (m_istore (m_iload (m_if1 (m_xgo hi) (m_aload (m_geti (m_if1 (m_xgo hi) (m_aload (m_getr (m_iload (m_aload (m_geti (m_ast (m_aload (m_getr (m_iload (m_xgo hi)))))))))))))))))))))))
theorem mobz_2100 : xBm bz_2100 := fun dl fs i1 i2 fin hi => (m_ast (m_aload (m_iload (m_iload (m_iload (m_callv hi))))))
theorem mobz_2101 : xBm bz_2101 := fun dl fs i1 i2 fin hi => (m_istore (m_aload (m_iload (m_iload (m_aload (m_callv hi))))))
theorem mobz_2102 : xBm bz_2102 := fun dl fs i1 i2 fin hi => (m_callv hi)
theorem mobz_2103 : xBm bz_2103 := fun dl fs i1 i2 fin hi => (m_istore (m_xgo hi))
theorem mobz_2104 : xBm bz_2104 := fun dl fs i1 i2 fin hi => (m_aload (m_geti (m_if1 (m_xgo hi) (m_aload (m_callv hi)))))
theorem mobz_2105 : xBm bz_2105 := fun dl fs i1 i2 fin hi => (m_if1 (m_xgo hi) (m_aload (m_iload (m_iload (m_aload (m_callv hi))))))
theorem mobz_2106 : xBm bz_2106 := fun dl fs i1 i2 fin hi => (m_callv hi)
theorem mobz_2107 : xBm bz_2107 := fun dl fs i1 i2 fin hi => (m_istore (m_xgo hi))
theorem mobz_2108 : xBm bz_2108 := fun dl fs i1 i2 fin hi => (m_aload (m_geti (m_if1 (m_xgo hi) (m_aload (m_iload (m_iload (m_aload (m_callv hi))))))))
theorem mobz_2109 : xBm bz_2109 := fun dl fs i1 i2 fin hi => (m_callv hi)
theorem mobz_2110 : xBm bz_2110 := fun dl fs i1 i2 fin hi => (m_istore (m_iload (m_iret hi)))
theorem mobz_2111 : xBm bz_2111 := fun dl fs i1 i2 fin hi => (m_iconst (m_istore (m_iload (m_iload (m_if2 (m_xgo hi) (m_aload (m_getr (m_iload (m_iload (m_bin (m_ald (m_aload (m_getr (m_iload (m_iload (m_bin (m_ald (m_if2 (m_xgo hi) m_no))))))))))))))))))
theorem mobz_2112 : xBm bz_2112 := fun dl fs i1 i2 fin hi => (m_iload (m_iload (m_if2 (m_xgo hi) (m_aload (m_getr (m_iload (m_iload (m_bin (m_ald (m_aload (m_getr (m_iload (m_iload (m_bin (m_ald (m_if2 (m_xgo hi) m_no))))))))))))))))
theorem mobz_2113 : xBm bz_2113 := fun dl fs i1 i2 fin hi => (m_iinc (m_xgo hi))
theorem mobz_2114 : xBm bz_2114 := fun dl fs i1 i2 fin hi => (m_iconst (m_zret hi))
theorem mobz_2115 : xBm bz_2115 := fun dl fs i1 i2 fin hi => (m_iload (m_istore (m_iconst (m_istore (m_iload (m_iload (m_if2 (m_xgo hi) (m_aload (m_getr (m_iload (m_ald (m_iconst (m_if2 (m_xgo hi) (m_aload (m_getr (m_iload (m_ald (m_iconst (m_if2 (m_xgo hi) (m_aload (m_iload (m_iload (m_xgo hi)))))))))))))))))))))))
theorem mobz_2116 : xBm bz_2116 := fun dl fs i1 i2 fin hi => (m_iload (m_iload (m_if2 (m_xgo hi) (m_aload (m_getr (m_iload (m_ald (m_iconst (m_if2 (m_xgo hi) (m_aload (m_getr (m_iload (m_ald (m_iconst (m_if2 (m_xgo hi) (m_aload (m_iload (m_iload (m_callv hi)))))))))))))))))))
theorem mobz_2117 : xBm bz_2117 := fun dl fs i1 i2 fin hi => (m_if1 (m_xgo hi) (m_aload (m_getr (m_iload (m_ald (m_iconst (m_if2 (m_xgo hi) (m_aload (m_getr (m_iload (m_ald (m_iconst (m_if2 (m_xgo hi) m_no)))))))))))))
theorem mobz_2118 : xBm bz_2118 := fun dl fs i1 i2 fin hi => (m_aload (m_getr (m_iload (m_ald (m_iconst (m_if2 (m_xgo hi) (m_aload (m_getr (m_iload (m_ald (m_iconst (m_if2 (m_xgo hi) m_no))))))))))))
theorem mobz_2119 : xBm bz_2119 := fun dl fs i1 i2 fin hi => (m_iconst (m_istore (m_iinc (m_iload (m_if1 (m_xgo hi) m_no)))))
theorem mobz_2120 : xBm bz_2120 := fun dl fs i1 i2 fin hi => (m_xgo hi)
theorem mobz_2121 : xBm bz_2121 := fun dl fs i1 i2 fin hi => (m_iload (m_iload (m_if2 (m_xgo hi) (m_aload (m_iconst (m_iload (m_iconst (m_callv hi))))))))
theorem mobz_2122 : xBm bz_2122 := fun dl fs i1 i2 fin hi => (m_iconst (m_iret hi))
theorem mobz_2123 : xBm bz_2123 := fun dl fs i1 i2 fin hi => (m_iload (m_if1 (m_xgo hi) (m_aload (m_getr (m_iload (m_iconst (m_bin (m_ald (m_iconst (m_if2 (m_xgo hi) (m_aload (m_iconst (m_iload (m_iconst (m_callv hi)))))))))))))))
theorem mobz_2124 : xBm bz_2124 := fun dl fs i1 i2 fin hi => (m_iconst (m_istore (m_aload (m_iload (m_iload (m_callv hi))))))
theorem mobz_2125 : xBm bz_2125 := fun dl fs i1 i2 fin hi => (m_istore (m_iload (m_if1 (m_xgo hi) m_no)))
theorem mobz_2126 : xBm bz_2126 := fun dl fs i1 i2 fin hi => (m_iload (m_istore (m_xgo hi)))
theorem mobz_2127 : xBm bz_2127 := fun dl fs i1 i2 fin hi => (m_aload (m_iconst (m_puti (m_iload (m_if1 (m_xgo hi) (m_iload (m_iconst (m_if2 (m_xgo hi) (m_iconst (m_xgo hi))))))))))
theorem mobz_2128 : xBm bz_2128 := fun dl fs i1 i2 fin hi => (m_iconst (m_istore (m_iload (m_if1 (m_xgo hi) (m_iload (m_if1 (m_xgo hi) (m_iload (m_aload (m_geti (m_if2 (m_xgo hi) (m_xgo hi)))))))))))
theorem mobz_2129 : xBm bz_2129 := fun dl fs i1 i2 fin hi => (m_istore (m_iload (m_if1 (m_xgo hi) (m_iload (m_if1 (m_xgo hi) (m_iload (m_aload (m_geti (m_if2 (m_xgo hi) (m_xgo hi))))))))))
theorem mobz_2130 : xBm bz_2130 := fun dl fs i1 i2 fin hi => (m_iload (m_iconst (m_if2 (m_xgo hi) (m_iload (m_iconst (m_if2 (m_xgo hi) (m_aload (m_geti (m_if1 (m_xgo hi) (m_xgo hi))))))))))
theorem mobz_2131 : xBm bz_2131 := fun dl fs i1 i2 fin hi => (m_iconst (m_iret hi))
theorem mobz_2132 : xBm bz_2132 := fun dl fs i1 i2 fin hi => (m_iload (m_iconst (m_if2 (m_xgo hi) m_no)))
theorem mobz_2133 : xBm bz_2133 := fun dl fs i1 i2 fin hi => (m_iload (m_iconst (m_if2 (m_xgo hi) m_no)))
theorem mobz_2134 : xBm bz_2134 := fun dl fs i1 i2 fin hi => (m_iload (m_iconst (m_if2 (m_xgo hi) m_no)))
theorem mobz_2135 : xBm bz_2135 := fun dl fs i1 i2 fin hi => (m_aload (m_iconst (m_puti (m_iload (m_tablen (And.intro (m_xgo hi) (And.intro (m_xgo hi) (And.intro (m_xgo hi) (And.intro m_no (And.intro m_no True.intro))))) m_no)))))
theorem mobz_2136 : xBm bz_2136 := fun dl fs i1 i2 fin hi => (m_aload (m_aload (m_getr (m_iload (m_ald (m_callv hi))))))
theorem mobz_2137 : xBm bz_2137 := fun dl fs i1 i2 fin hi => (m_xgo hi)
theorem mobz_2138 : xBm bz_2138 := fun dl fs i1 i2 fin hi => (m_aload (m_aload (m_getr (m_aload (m_getr (m_iload (m_ald (m_ald (m_iconst (m_callv hi))))))))))
theorem mobz_2139 : xBm bz_2139 := fun dl fs i1 i2 fin hi => (m_xgo hi)
theorem mobz_2140 : xBm bz_2140 := fun dl fs i1 i2 fin hi => (m_aload (m_getr (m_iload (m_ald (m_if1 (m_xgo hi) (m_aload (m_aload (m_getr (m_iload (m_ald (m_callv hi)))))))))))
theorem mobz_2141 : xBm bz_2141 := fun dl fs i1 i2 fin hi => (m_xgo hi)
theorem mobz_2142 : xBm bz_2142 := fun dl fs i1 i2 fin hi => (m_aload (m_geti (m_iret hi)))
theorem mobz_2143 : xBm bz_2143 := fun dl fs i1 i2 fin hi => (m_aload (m_getr (m_iload (m_ald (m_iconst (m_if2 (m_xgo hi) (m_iconst (m_iret hi))))))))
theorem mobz_2144 : xBm bz_2144 := fun dl fs i1 i2 fin hi => (m_aload (m_getr (m_aload (m_getr (m_iload (m_ald (m_ald (m_if1 (m_xgo hi) m_no))))))))
theorem mobz_2145 : xBm bz_2145 := fun dl fs i1 i2 fin hi => (m_aload (m_getr (m_aload (m_getr (m_iload (m_ald (m_ald (m_iret hi))))))))
theorem mobz_2146 : xBm bz_2146 := fun dl fs i1 i2 fin hi => (m_aload (m_geti (m_iconst (m_if2 (m_xgo hi) m_no))))
theorem mobz_2147 : xBm bz_2147 := fun dl fs i1 i2 fin hi => (m_aload (m_getr (m_aload (m_geti (m_iload (m_un (m_ast (m_aload (m_dup (m_geti (m_iconst (m_bin (m_puti (m_ret hi))))))))))))))
theorem mobz_2148 : xBm bz_2148 := fun dl fs i1 i2 fin hi => (m_iload (m_if1 (m_xgo hi) (m_aload (m_dup (m_geti (m_iconst (m_bin (m_puti (m_xgo hi)))))))))
theorem mobz_2149 : xBm bz_2149 := fun dl fs i1 i2 fin hi => (m_iload (m_if1 (m_xgo hi) (m_aload (m_aload (m_geti (m_callv hi))))))
theorem mobz_2150 : xBm bz_2150 := fun dl fs i1 i2 fin hi => (m_if1 (m_xgo hi) m_no)
theorem mobz_2151 : xBm bz_2151 := fun dl fs i1 i2 fin hi => (m_aload (m_iconst (m_aload (m_geti (m_aload (m_getr (m_aload (m_geti (m_ald (m_callv hi))))))))))
theorem mobz_2152 : xBm bz_2152 := fun dl fs i1 i2 fin hi => (m_istore (m_aload (m_geti (m_if1 (m_xgo hi) (m_aload (m_dup (m_geti (m_iconst (m_bin (m_puti (m_iload (m_if1 (m_xgo hi) (m_aload (m_iconst (m_callv hi)))))))))))))))
theorem mobz_2153 : xBm bz_2153 := fun dl fs i1 i2 fin hi => (m_aload (m_iconst (m_callv hi)))
theorem mobz_2154 : xBm bz_2154 := fun dl fs i1 i2 fin hi => (m_aload (m_geti (m_istore (m_aload (m_getr (m_iload (m_aload (m_geti (m_if1 m_no (m_aload (m_callv hi)))))))))))
theorem mobz_2155 : xBm bz_2155 := fun dl fs i1 i2 fin hi => (m_xgo hi)
theorem mobz_2156 : xBm bz_2156 := fun dl fs i1 i2 fin hi => (m_ast (m_aload (m_getr (m_iload (m_aload (m_geti (m_iload (m_bin (m_ast (m_iload (m_iret hi)))))))))))
theorem mobz_2157 : xBm bz_2157 := fun dl fs i1 i2 fin hi => (m_aload (m_getr (m_iload (m_ald (m_iconst (m_if2 (m_xgo hi) (m_aload (m_aload (m_getr (m_iload (m_ald (m_callv hi))))))))))))
theorem mobz_2158 : xBm bz_2158 := fun dl fs i1 i2 fin hi => (m_ret hi)
theorem mobz_2159 : xBm bz_2159 := fun dl fs i1 i2 fin hi => (m_aload (m_getr (m_iload (m_ald (m_istore (m_aload (m_iload (m_iload (m_callv hi)))))))))
theorem mobz_2160 : xBm bz_2160 := fun dl fs i1 i2 fin hi => (m_if1 (m_xgo hi) (m_aload (m_iconst (m_callv hi))))
theorem mobz_2161 : xBm bz_2161 := fun dl fs i1 i2 fin hi => (m_aload (m_iload (m_callv hi)))
theorem mobz_2162 : xBm bz_2162 := fun dl fs i1 i2 fin hi => (m_iconst (m_istore (m_aload (m_getr (m_iload (m_ald (m_istore (m_iload (m_if1 (m_xgo hi) (m_aload (m_iload (m_iload (m_callv hi)))))))))))))
theorem mobz_2163 : xBm bz_2163 := fun dl fs i1 i2 fin hi => (m_iload (m_if1 (m_xgo hi) (m_aload (m_iload (m_iload (m_callv hi))))))
theorem mobz_2164 : xBm bz_2164 := fun dl fs i1 i2 fin hi => (m_aload (m_iload (m_iload (m_iload (m_calls hi)))))
theorem mobz_2165 : xBm bz_2165 := fun dl fs i1 i2 fin hi => (m_callv hi)
theorem mobz_2166 : xBm bz_2166 := fun dl fs i1 i2 fin hi => (m_iinc (m_aload (m_getr (m_iload (m_ald (m_istore (m_xgo hi)))))))
theorem mobz_2167 : xBm bz_2167 := fun dl fs i1 i2 fin hi => (m_aload (m_iload (m_callv hi)))
theorem mobz_2168 : xBm bz_2168 := fun dl fs i1 i2 fin hi => (m_aload (m_iload (m_iload (m_callv hi))))
theorem mobz_2169 : xBm bz_2169 := fun dl fs i1 i2 fin hi => (m_if1 (m_xgo hi) (m_aload (m_iconst (m_callv hi))))
theorem mobz_2170 : xBm bz_2170 := fun dl fs i1 i2 fin hi => (m_ret hi)
theorem mobz_2171 : xBm bz_2171 := fun dl fs i1 i2 fin hi => (m_iload (m_istore (m_iload (m_iload (m_if2 (m_xgo hi) (m_aload (m_getr (m_iload (m_ald (m_calls hi))))))))))
theorem mobz_2172 : xBm bz_2172 := fun dl fs i1 i2 fin hi => (m_iload (m_iload (m_if2 (m_xgo hi) (m_aload (m_getr (m_iload (m_ald (m_calls hi))))))))
theorem mobz_2173 : xBm bz_2173 := fun dl fs i1 i2 fin hi => (m_if1 (m_xgo hi) (m_iinc (m_xgo hi)))
theorem mobz_2174 : xBm bz_2174 := fun dl fs i1 i2 fin hi => (m_iload (m_iret hi))
theorem mobz_2175 : xBm bz_2175 := fun dl fs i1 i2 fin hi => (m_iconst (m_istore (m_iload (m_aload (m_callt hi)))))
theorem mobz_2176 : xBm bz_2176 := fun dl fs i1 i2 fin hi => (m_iload (m_aload (m_callt hi)))
theorem mobz_2177 : xBm bz_2177 := fun dl fs i1 i2 fin hi => (m_if2 (m_xgo hi) (m_aload (m_aload (m_iload (m_callt hi)))))
theorem mobz_2178 : xBm bz_2178 := fun dl fs i1 i2 fin hi => (m_callv hi)
theorem mobz_2179 : xBm bz_2179 := fun dl fs i1 i2 fin hi => (m_iinc (m_xgo hi))
theorem mobz_2180 : xBm bz_2180 := fun dl fs i1 i2 fin hi => (m_ret hi)
theorem mobz_2181 : xBm bz_2181 := fun dl fs i1 i2 fin hi => (m_iconst (m_istore (m_iload (m_aload (m_geti (m_if2 (m_xgo hi) (m_aload (m_getr (m_iload (m_iload (m_iconst (m_if2 (m_xgo hi) (m_aload (m_getr (m_iload (m_ald (m_if1 (m_xgo hi) (m_aload (m_aload (m_getr (m_iload (m_ald (m_xgo hi)))))))))))))))))))))))
theorem mobz_2182 : xBm bz_2182 := fun dl fs i1 i2 fin hi => (m_iload (m_aload (m_geti (m_if2 (m_xgo hi) (m_aload (m_getr (m_iload (m_iload (m_iconst (m_if2 (m_xgo hi) (m_aload (m_getr (m_iload (m_ald (m_if1 (m_xgo hi) (m_aload (m_aload (m_getr (m_iload (m_ald (m_iconst (m_callv hi))))))))))))))))))))))
theorem mobz_2183 : xBm bz_2183 := fun dl fs i1 i2 fin hi => (m_if1 (m_xgo hi) (m_iconst (m_xgo hi)))
theorem mobz_2184 : xBm bz_2184 := fun dl fs i1 i2 fin hi => (m_iconst (m_xgo hi))
theorem mobz_2185 : xBm bz_2185 := fun dl fs i1 i2 fin hi => (m_iconst (m_ast (m_iinc (m_xgo hi))))
theorem mobz_2186 : xBm bz_2186 := fun dl fs i1 i2 fin hi => (m_ast (m_iinc (m_xgo hi)))
theorem mobz_2187 : xBm bz_2187 := fun dl fs i1 i2 fin hi => (m_iconst (m_istore (m_iload (m_if1 (m_xgo hi) (m_iconst (m_istore (m_iconst (m_istore (m_xgo hi)))))))))
theorem mobz_2188 : xBm bz_2188 := fun dl fs i1 i2 fin hi => (m_iload (m_if1 (m_xgo hi) (m_iconst (m_istore (m_iconst (m_istore (m_iload (m_aload (m_geti (m_if2 (m_xgo hi) (m_aload (m_getr (m_iload (m_ald (m_istore (m_aload (m_getr (m_iload (m_ald (m_if1 (m_xgo hi) (m_aload (m_iload (m_xgo hi)))))))))))))))))))))))
theorem mobz_2189 : xBm bz_2189 := fun dl fs i1 i2 fin hi => (m_iload (m_aload (m_geti (m_if2 (m_xgo hi) (m_aload (m_getr (m_iload (m_ald (m_istore (m_aload (m_getr (m_iload (m_ald (m_if1 (m_xgo hi) (m_aload (m_iload (m_callv hi)))))))))))))))))
theorem mobz_2190 : xBm bz_2190 := fun dl fs i1 i2 fin hi => (m_if1 m_no (m_xgo hi))
theorem mobz_2191 : xBm bz_2191 := fun dl fs i1 i2 fin hi => (m_iinc (m_xgo hi))
theorem mobz_2192 : xBm bz_2192 := fun dl fs i1 i2 fin hi => (m_xgo hi)
theorem mobz_2193 : xBm bz_2193 := fun dl fs i1 i2 fin hi => (m_ret hi)
theorem mobz_2194 : xBm bz_2194 := fun dl fs i1 i2 fin hi => (m_aload (m_getr (m_aload (m_geti (m_iload (m_ast (m_aload (m_getr (m_aload (m_geti (m_iload (m_ast (m_aload (m_dup (m_geti (m_iconst (m_bin (m_puti (m_aload (m_geti (m_iconst (m_bin (m_xgo hi)))))))))))))))))))))))
theorem mobz_2195 : xBm bz_2195 := fun dl fs i1 i2 fin hi => (m_aload (m_geti (m_if1 (m_xgo hi) (m_aload (m_aload (m_geti (m_puti (m_iconst (m_iret hi)))))))))
theorem mobz_2196 : xBm bz_2196 := fun dl fs i1 i2 fin hi => (m_aload (m_getr (m_iload (m_ald (m_iconst (m_if2 (m_xgo hi) (m_iconst (m_iret hi))))))))
theorem mobz_2197 : xBm bz_2197 := fun dl fs i1 i2 fin hi => (m_aload (m_getr (m_aload (m_getr (m_iload (m_ald (m_ald (m_if1 (m_xgo hi) m_no))))))))
theorem mobz_2198 : xBm bz_2198 := fun dl fs i1 i2 fin hi => (m_aload (m_getr (m_aload (m_getr (m_iload (m_ald (m_ald (m_iret hi))))))))
theorem mobz_2199 : xBm bz_2199 := fun dl fs i1 i2 fin hi => (m_iload (m_istore (m_iload (m_aload (m_geti (m_if2 (m_xgo hi) (m_aload (m_getr (m_iload (m_ald (m_iconst (m_if2 (m_xgo hi) (m_aload (m_iload (m_callv hi)))))))))))))))
theorem mobz_2200 : xBm bz_2200 := fun dl fs i1 i2 fin hi => (m_iload (m_aload (m_geti (m_if2 (m_xgo hi) (m_aload (m_getr (m_iload (m_ald (m_iconst (m_if2 (m_xgo hi) (m_aload (m_iload (m_callv hi)))))))))))))
theorem mobz_2201 : xBm bz_2201 := fun dl fs i1 i2 fin hi => (m_xgo hi)
theorem mobz_2202 : xBm bz_2202 := fun dl fs i1 i2 fin hi => (m_iconst (m_istore (m_iconst (m_istore (m_iload (m_iload (m_if2 (m_xgo hi) (m_iload (m_iconst (m_bin (m_istore (m_iload (m_if1 (m_xgo hi) (m_aload (m_aload (m_getr (m_iload (m_ald (m_callv hi)))))))))))))))))))
theorem mobz_2203 : xBm bz_2203 := fun dl fs i1 i2 fin hi => (m_istore (m_iconst (m_istore (m_iload (m_iload (m_if2 (m_xgo hi) (m_iload (m_iconst (m_bin (m_istore (m_iload (m_if1 (m_xgo hi) (m_aload (m_aload (m_getr (m_iload (m_ald (m_callv hi))))))))))))))))))
theorem mobz_2204 : xBm bz_2204 := fun dl fs i1 i2 fin hi => (m_iload (m_iload (m_if2 (m_xgo hi) (m_iload (m_iconst (m_bin (m_istore (m_iload (m_if1 (m_xgo hi) (m_aload (m_aload (m_getr (m_iload (m_ald (m_callv hi)))))))))))))))
theorem mobz_2205 : xBm bz_2205 := fun dl fs i1 i2 fin hi => (m_aload (m_aload (m_getr (m_iload (m_ald (m_callv hi))))))
theorem mobz_2206 : xBm bz_2206 := fun dl fs i1 i2 fin hi => (m_if2 (m_xgo hi) m_no)
theorem mobz_2207 : xBm bz_2207 := fun dl fs i1 i2 fin hi => (m_iload (m_if1 m_no (m_aload (m_aload (m_getr (m_iload (m_ald (m_callv hi))))))))
theorem mobz_2208 : xBm bz_2208 := fun dl fs i1 i2 fin hi => (m_aload (m_aload (m_getr (m_iload (m_ald (m_callv hi))))))
theorem mobz_2209 : xBm bz_2209 := fun dl fs i1 i2 fin hi => (m_if2 m_no (m_iconst (m_xgo hi)))
theorem mobz_2210 : xBm bz_2210 := fun dl fs i1 i2 fin hi => (m_istore (m_iload (m_if1 (m_xgo hi) (m_aload (m_aload (m_getr (m_iload (m_ald (m_callv hi)))))))))
theorem mobz_2211 : xBm bz_2211 := fun dl fs i1 i2 fin hi => (m_if1 m_no (m_aload (m_aload (m_getr (m_iload (m_ald (m_callv hi)))))))
theorem mobz_2212 : xBm bz_2212 := fun dl fs i1 i2 fin hi => (m_aload (m_aload (m_getr (m_iload (m_ald (m_callv hi))))))
theorem mobz_2213 : xBm bz_2213 := fun dl fs i1 i2 fin hi => (m_if2 (m_xgo hi) m_no)
theorem mobz_2214 : xBm bz_2214 := fun dl fs i1 i2 fin hi => (m_iinc (m_xgo hi))
theorem mobz_2215 : xBm bz_2215 := fun dl fs i1 i2 fin hi => (m_iinc (m_xgo hi))
theorem mobz_2216 : xBm bz_2216 := fun dl fs i1 i2 fin hi => (m_ret hi)
theorem mobz_2217 : xBm bz_2217 := fun dl fs i1 i2 fin hi => (m_iload (m_istore (m_iconst (m_istore (m_iload (m_iload (m_if2 (m_xgo hi) (m_iload (m_iconst (m_bin (m_aload (m_getr (m_iload (m_iload (m_bin (m_ald (m_bin (m_iconst (m_bin (m_istore (m_iinc (m_xgo hi))))))))))))))))))))))
theorem mobz_2218 : xBm bz_2218 := fun dl fs i1 i2 fin hi => (m_iload (m_iload (m_if2 (m_xgo hi) (m_iload (m_iconst (m_bin (m_aload (m_getr (m_iload (m_iload (m_bin (m_ald (m_bin (m_iconst (m_bin (m_istore (m_iinc (m_xgo hi))))))))))))))))))
theorem mobz_2219 : xBm bz_2219 := fun dl fs i1 i2 fin hi => (m_aload (m_getr (m_iload (m_ald (m_istore (m_iload (m_if1 (m_xgo hi) (m_aload (m_getr (m_iload (m_ald (m_iload (m_if2 m_no (m_aload (m_aload (m_getr (m_iload (m_ald (m_iload (m_iload (m_callv hi)))))))))))))))))))))
theorem mobz_2220 : xBm bz_2220 := fun dl fs i1 i2 fin hi => (m_if1 m_no (m_iload (m_iret hi)))
theorem mobz_2221 : xBm bz_2221 := fun dl fs i1 i2 fin hi => (m_aload (m_getr (m_aload (m_geti (m_iload (m_ast (m_aload (m_getr (m_aload (m_geti (m_iload (m_ast (m_aload (m_getr (m_aload (m_geti (m_aload (m_getr (m_iload (m_ald (m_ast (m_aload (m_xgo hi)))))))))))))))))))))))
theorem mobz_2222 : xBm bz_2222 := fun dl fs i1 i2 fin hi => (m_aload (m_geti (m_istore (m_aload (m_callv hi)))))
theorem mobz_2223 : xBm bz_2223 := fun dl fs i1 i2 fin hi => (m_istore (m_aload (m_callv hi)))
theorem mobz_2224 : xBm bz_2224 := fun dl fs i1 i2 fin hi => (m_aload (m_geti (m_if1 (m_xgo hi) m_no)))
theorem mobz_2225 : xBm bz_2225 := fun dl fs i1 i2 fin hi => (m_aload (m_iload (m_iconst (m_if2 m_no (m_iconst (m_xgo hi))))))
theorem mobz_2226 : xBm bz_2226 := fun dl fs i1 i2 fin hi => (m_iload (m_iconst (m_callv hi)))
theorem mobz_2227 : xBm bz_2227 := fun dl fs i1 i2 fin hi => (m_istore (m_iconst (m_istore (m_iload (m_iconst (m_if2 m_no (m_iconst (m_istore (m_aload (m_callv hi))))))))))
theorem mobz_2228 : xBm bz_2228 := fun dl fs i1 i2 fin hi => (m_iconst (m_if2 (m_xgo hi) m_no))
theorem mobz_2229 : xBm bz_2229 := fun dl fs i1 i2 fin hi => (m_aload (m_geti (m_if1 (m_xgo hi) (m_aload (m_callv hi)))))
theorem mobz_2230 : xBm bz_2230 := fun dl fs i1 i2 fin hi => (m_iconst (m_if2 (m_xgo hi) (m_aload (m_callv hi))))
theorem mobz_2231 : xBm bz_2231 := fun dl fs i1 i2 fin hi => (m_iconst (m_if2 (m_xgo hi) (m_aload (m_iload (m_iload (m_aload (m_aload (m_callv hi))))))))
theorem mobz_2232 : xBm bz_2232 := fun dl fs i1 i2 fin hi => (m_aload (m_iload (m_iload (m_aload (m_aload (m_callv hi))))))
theorem mobz_2233 : xBm bz_2233 := fun dl fs i1 i2 fin hi => (m_iconst (m_if2 m_no (m_iconst (m_xgo hi))))
theorem mobz_2234 : xBm bz_2234 := fun dl fs i1 i2 fin hi => (m_aload (m_geti (m_aload (m_getr (m_aload (m_geti (m_ald (m_callv hi))))))))
theorem mobz_2235 : xBm bz_2235 := fun dl fs i1 i2 fin hi => (m_callv hi)
theorem mobz_2236 : xBm bz_2236 := fun dl fs i1 i2 fin hi => (m_istore (m_iinc (m_aload (m_dup (m_geti (m_iconst (m_bin (m_puti (m_xgo hi)))))))))
theorem mobz_2237 : xBm bz_2237 := fun dl fs i1 i2 fin hi => (m_aload (m_iconst (m_callv hi)))
theorem mobz_2238 : xBm bz_2238 := fun dl fs i1 i2 fin hi => (m_aload (m_geti (m_istore (m_aload (m_geti (m_if1 (m_xgo hi) (m_aload (m_iload (m_iload (m_aload (m_callv hi)))))))))))
theorem mobz_2239 : xBm bz_2239 := fun dl fs i1 i2 fin hi => (m_callv hi)
theorem mobz_2240 : xBm bz_2240 := fun dl fs i1 i2 fin hi => (m_istore (m_aload (m_getr (m_iload (m_iload (m_ast (m_aload (m_getr (m_iload (m_aload (m_geti (m_iload (m_bin (m_ast (m_xgo hi)))))))))))))))
theorem mobz_2241 : xBm bz_2241 := fun dl fs i1 i2 fin hi => (m_aload (m_dup (m_geti (m_iconst (m_bin (m_puti (m_iload (m_iret hi))))))))
theorem mobz_2242 : xBm bz_2242 := fun dl fs i1 i2 fin hi => (m_aload (m_geti (m_if1 (m_xgo hi) (m_aload (m_callv hi)))))
theorem mobz_2243 : xBm bz_2243 := fun dl fs i1 i2 fin hi => (m_iload (m_if2 (m_xgo hi) (m_iconst (m_zret hi))))
theorem mobz_2244 : xBm bz_2244 := fun dl fs i1 i2 fin hi => (m_iconst (m_zret hi))
theorem mobz_2245 : xBm bz_2245 := fun dl fs i1 i2 fin hi => (m_aload (m_dup (m_geti (m_iconst (m_bin (m_puti (m_iconst (m_zret hi))))))))
theorem mobz_2246 : xBm bz_2246 := fun dl fs i1 i2 fin hi => (m_aload (m_iload (m_puti (m_aload (m_iload (m_puti (m_iload (m_iret hi))))))))
theorem mobz_2247 : xBm bz_2247 := fun dl fs i1 i2 fin hi => (m_aload (m_geti (m_iret hi)))
theorem mobz_2248 : xBm bz_2248 := fun dl fs i1 i2 fin hi => (m_aload (m_getr (m_aload (m_geti (m_iload (m_un (m_ast (m_aload (m_getr (m_aload (m_geti (m_iload (m_ast (m_aload (m_getr (m_aload (m_geti (m_iload (m_ast (m_aload (m_dup (m_geti (m_xgo hi)))))))))))))))))))))))
theorem mobz_2249 : xBm bz_2249 := fun dl fs i1 i2 fin hi => (m_aload (m_geti (m_istore (m_aload (m_dup (m_geti (m_iconst (m_bin (m_puti (m_aload (m_getr (m_iload (m_iload (m_un (m_ast (m_aload (m_getr (m_iload (m_iload (m_ast (m_aload (m_getr (m_xgo hi)))))))))))))))))))))))
theorem mobz_2250 : xBm bz_2250 := fun dl fs i1 i2 fin hi => (m_aload (m_getr (m_iload (m_ald (m_iconst (m_if2 (m_xgo hi) (m_aload (m_iconst (m_callv hi)))))))))
theorem mobz_2251 : xBm bz_2251 := fun dl fs i1 i2 fin hi => (m_aload (m_aload (m_getr (m_iload (m_ald (m_aload (m_getr (m_aload (m_getr (m_aload (m_getr (m_iload (m_ald (m_ald (m_ald (m_bin (m_iconst (m_bin (m_i2l (m_callvL hi))))))))))))))))))))
theorem mobz_2252 : xBm bz_2252 := fun dl fs i1 i2 fin hi => (m_ret hi)
theorem mobz_2253 : xBm bz_2253 := fun dl fs i1 i2 fin hi => (m_aload (m_getr (m_iload (m_ald (m_iconst (m_if2 (m_xgo hi) (m_iconst (m_xgo hi))))))))
theorem mobz_2254 : xBm bz_2254 := fun dl fs i1 i2 fin hi => (m_iconst (m_istore (m_iload (m_if1 (m_xgo hi) (m_aload (m_aload (m_getr (m_iload (m_ald (m_callv hi))))))))))
theorem mobz_2255 : xBm bz_2255 := fun dl fs i1 i2 fin hi => (m_istore (m_iload (m_if1 (m_xgo hi) (m_aload (m_aload (m_getr (m_iload (m_ald (m_callv hi)))))))))
theorem mobz_2256 : xBm bz_2256 := fun dl fs i1 i2 fin hi => (m_aload (m_iload (m_if1 (m_xgo hi) (m_iconst (m_xgo hi)))))
theorem mobz_2257 : xBm bz_2257 := fun dl fs i1 i2 fin hi => (m_iconst (m_callv hi))
theorem mobz_2258 : xBm bz_2258 := fun dl fs i1 i2 fin hi => (m_callv hi)
theorem mobz_2259 : xBm bz_2259 := fun dl fs i1 i2 fin hi => (m_aload (m_getr (m_iload (m_ald (m_istore (m_iload (m_if1 (m_xgo hi) (m_iload (m_aload (m_getr (m_iload (m_ald (m_if2 (m_xgo hi) (m_aload (m_iconst (m_callv hi))))))))))))))))
theorem mobz_2260 : xBm bz_2260 := fun dl fs i1 i2 fin hi => (m_iload (m_if1 (m_xgo hi) (m_iload (m_aload (m_getr (m_iload (m_ald (m_if2 (m_xgo hi) (m_aload (m_iconst (m_callv hi)))))))))))
theorem mobz_2261 : xBm bz_2261 := fun dl fs i1 i2 fin hi => (m_iload (m_if1 (m_xgo hi) (m_aload (m_getr (m_iload (m_ald (m_if1 (m_xgo hi) m_no)))))))
theorem mobz_2262 : xBm bz_2262 := fun dl fs i1 i2 fin hi => (m_iload (m_if1 (m_xgo hi) (m_aload (m_getr (m_iload (m_ald (m_if1 (m_xgo hi) (m_aload (m_aload (m_getr (m_iload (m_ald (m_callv hi)))))))))))))
theorem mobz_2263 : xBm bz_2263 := fun dl fs i1 i2 fin hi => (m_iload (m_if1 (m_xgo hi) (m_aload (m_iconst (m_callv hi)))))
theorem mobz_2264 : xBm bz_2264 := fun dl fs i1 i2 fin hi => (m_aload (m_iload (m_callv hi)))
theorem mobz_2265 : xBm bz_2265 := fun dl fs i1 i2 fin hi => (m_aload (m_getr (m_iload (m_ald (m_istore (m_xgo hi))))))
theorem mobz_2266 : xBm bz_2266 := fun dl fs i1 i2 fin hi => (m_aload (m_iload (m_if1 (m_xgo hi) (m_iconst (m_xgo hi)))))
theorem mobz_2267 : xBm bz_2267 := fun dl fs i1 i2 fin hi => (m_iconst (m_callv hi))
theorem mobz_2268 : xBm bz_2268 := fun dl fs i1 i2 fin hi => (m_callv hi)
theorem mobz_2269 : xBm bz_2269 := fun dl fs i1 i2 fin hi => (m_ret hi)
theorem mobz_2270 : xBm bz_2270 := fun dl fs i1 i2 fin hi => (m_aload (m_getr (m_iload (m_ald (m_iload (m_if2 (m_xgo hi) (m_iconst (m_xgo hi))))))))
theorem mobz_2271 : xBm bz_2271 := fun dl fs i1 i2 fin hi => (m_iconst (m_istore (m_aload (m_getr (m_iload (m_ald (m_istore (m_iload (m_if1 (m_xgo hi) (m_iload (m_aload (m_iload (m_iload (m_callv hi))))))))))))))
theorem mobz_2272 : xBm bz_2272 := fun dl fs i1 i2 fin hi => (m_istore (m_aload (m_getr (m_iload (m_ald (m_istore (m_iload (m_if1 (m_xgo hi) (m_iload (m_aload (m_iload (m_iload (m_callv hi)))))))))))))
theorem mobz_2273 : xBm bz_2273 := fun dl fs i1 i2 fin hi => (m_iload (m_if1 (m_xgo hi) (m_iload (m_aload (m_iload (m_iload (m_callv hi)))))))
theorem mobz_2274 : xBm bz_2274 := fun dl fs i1 i2 fin hi => (m_bin (m_istore (m_aload (m_getr (m_iload (m_ald (m_istore (m_xgo hi))))))))
theorem mobz_2275 : xBm bz_2275 := fun dl fs i1 i2 fin hi => (m_iload (m_iret hi))
theorem mobz_2276 : xBm bz_2276 := fun dl fs i1 i2 fin hi => (m_aload (m_geti (m_istore (m_aload (m_callv hi)))))
theorem mobz_2277 : xBm bz_2277 := fun dl fs i1 i2 fin hi => (m_istore (m_aload (m_geti (m_if1 (m_xgo hi) (m_aload (m_callv hi))))))
theorem mobz_2278 : xBm bz_2278 := fun dl fs i1 i2 fin hi => (m_iconst (m_if2 (m_xgo hi) (m_iload (m_iret hi))))
theorem mobz_2279 : xBm bz_2279 := fun dl fs i1 i2 fin hi => (m_aload (m_iconst (m_iload (m_iconst (m_callv hi)))))
theorem mobz_2280 : xBm bz_2280 := fun dl fs i1 i2 fin hi => (m_istore (m_iload (m_istore (m_aload (m_getr (m_iload (m_iload (m_ast (m_xgo hi)))))))))
theorem mobz_2281 : xBm bz_2281 := fun dl fs i1 i2 fin hi => (m_aload (m_iconst (m_callv hi)))
theorem mobz_2282 : xBm bz_2282 := fun dl fs i1 i2 fin hi => (m_if1 (m_xgo hi) (m_aload (m_callv hi)))
theorem mobz_2283 : xBm bz_2283 := fun dl fs i1 i2 fin hi => (m_istore (m_aload (m_geti (m_if1 (m_xgo hi) m_no))))
theorem mobz_2284 : xBm bz_2284 := fun dl fs i1 i2 fin hi => (m_iload (m_istore (m_aload (m_callv hi))))
theorem mobz_2285 : xBm bz_2285 := fun dl fs i1 i2 fin hi => (m_iconst (m_if2 (m_xgo hi) (m_aload (m_iconst (m_aload (m_geti (m_iconst (m_callv hi))))))))
theorem mobz_2286 : xBm bz_2286 := fun dl fs i1 i2 fin hi => (m_istore (m_aload (m_getr (m_iload (m_iload (m_ast (m_aload (m_getr (m_aload (m_getr (m_iload (m_ald (m_iload (m_ast (m_iload (m_istore (m_xgo hi)))))))))))))))))
theorem mobz_2287 : xBm bz_2287 := fun dl fs i1 i2 fin hi => (m_aload (m_getr (m_aload (m_getr (m_iload (m_ald (m_iload (m_ast (m_iload (m_istore (m_xgo hi)))))))))))
theorem mobz_2288 : xBm bz_2288 := fun dl fs i1 i2 fin hi => (m_iload (m_iret hi))
theorem mobz_2289 : xBm bz_2289 := fun dl fs i1 i2 fin hi => (m_aload (m_geti (m_istore (m_iload (m_istore (m_iload (m_iload (m_if2 (m_xgo hi) (m_aload (m_getr (m_iload (m_ald (m_iconst (m_if2 (m_xgo hi) (m_xgo hi)))))))))))))))
theorem mobz_2290 : xBm bz_2290 := fun dl fs i1 i2 fin hi => (m_iload (m_iload (m_if2 (m_xgo hi) (m_aload (m_getr (m_iload (m_ald (m_iconst (m_if2 (m_xgo hi) (m_xgo hi))))))))))
theorem mobz_2291 : xBm bz_2291 := fun dl fs i1 i2 fin hi => (m_aload (m_getr (m_iload (m_iconst (m_ast (m_iload (m_istore (m_aload (m_getr (m_iload (m_ald (m_istore (m_iload (m_if1 (m_xgo hi) m_no))))))))))))))
theorem mobz_2292 : xBm bz_2292 := fun dl fs i1 i2 fin hi => (m_aload (m_getr (m_iload (m_iconst (m_ast (m_iinc (m_xgo hi)))))))
theorem mobz_2293 : xBm bz_2293 := fun dl fs i1 i2 fin hi => (m_iinc (m_xgo hi))
theorem mobz_2294 : xBm bz_2294 := fun dl fs i1 i2 fin hi => (m_ret hi)
theorem mobz_2295 : xBm bz_2295 := fun dl fs i1 i2 fin hi => (m_lload (m_lconst (m_lcmp (m_if1 (m_xgo hi) m_no))))
theorem mobz_2296 : xBm bz_2296 := fun dl fs i1 i2 fin hi => (m_lconst (m_lstore (m_lload (m_lload (m_ldivr (m_lconst (m_lcmp (m_if1 m_no (m_lload (m_lload (m_ldivr (m_lconst (m_lcmp (m_if1 (m_xgo hi) m_no))))))))))))))
theorem mobz_2297 : xBm bz_2297 := fun dl fs i1 i2 fin hi => (m_lload (m_lconst (m_lcmp (m_if1 (m_xgo hi) (m_aload (m_iconst (m_lload (m_lload (m_ldivr (m_lconst (m_ldivr (m_labs (m_l2i (m_bin (m_callv hi)))))))))))))))
theorem mobz_2298 : xBm bz_2298 := fun dl fs i1 i2 fin hi => (m_lload (m_lconst (m_ldivr (m_lstore (m_xgo hi)))))
theorem mobz_2299 : xBm bz_2299 := fun dl fs i1 i2 fin hi => (m_ret hi)
theorem mobz_2300 : xBm bz_2300 := fun dl fs i1 i2 fin hi => (m_iload (m_if1 (m_xgo hi) (m_aload (m_getr (m_iload (m_iload (m_ast (m_xgo hi))))))))
theorem mobz_2301 : xBm bz_2301 := fun dl fs i1 i2 fin hi => (m_aload (m_getr (m_iload (m_iload (m_ast (m_iload (m_iret hi)))))))
theorem mobz_2302 : xBm bz_2302 := fun dl fs i1 i2 fin hi => (m_iload (m_iret hi))
theorem mobz_2303 : xBm bz_2303 := fun dl fs i1 i2 fin hi => (m_iconst (m_istore (m_iload (m_aload (m_getr (m_iload (m_ald (m_if2 (m_xgo hi) (m_aload (m_aload (m_getr (m_aload (m_getr (m_iload (m_ald (m_iload (m_bin (m_ald (m_callv hi)))))))))))))))))))
theorem mobz_2304 : xBm bz_2304 := fun dl fs i1 i2 fin hi => (m_iload (m_aload (m_getr (m_iload (m_ald (m_if2 (m_xgo hi) (m_aload (m_aload (m_getr (m_aload (m_getr (m_iload (m_ald (m_iload (m_bin (m_ald (m_callv hi)))))))))))))))))
theorem mobz_2305 : xBm bz_2305 := fun dl fs i1 i2 fin hi => (m_iinc (m_xgo hi))
theorem mobz_2306 : xBm bz_2306 := fun dl fs i1 i2 fin hi => (m_ret hi)
theorem mobz_2307 : xBm bz_2307 := fun dl fs i1 i2 fin hi => (m_iconst (m_istore (m_iconst (m_istore (m_iload (m_text (m_callt hi)))))))
theorem mobz_2308 : xBm bz_2308 := fun dl fs i1 i2 fin hi => (m_iload (m_text (m_callt hi)))
theorem mobz_2309 : xBm bz_2309 := fun dl fs i1 i2 fin hi => (m_if2 (m_xgo hi) (m_text (m_iconst (m_iload (m_callt hi)))))
theorem mobz_2310 : xBm bz_2310 := fun dl fs i1 i2 fin hi => (m_istore (m_iload (m_iload (m_bin (m_iload (m_iload (m_bin (m_if2 (m_xgo hi) (m_iconst (m_xgo hi))))))))))
theorem mobz_2311 : xBm bz_2311 := fun dl fs i1 i2 fin hi => (m_iconst (m_istore (m_iconst (m_istore (m_iload (m_iload (m_iload (m_bin (m_if2 (m_xgo hi) (m_iload (m_if1 (m_xgo hi) (m_text (m_iload (m_iload (m_bin (m_callt hi))))))))))))))))
theorem mobz_2312 : xBm bz_2312 := fun dl fs i1 i2 fin hi => (m_istore (m_iconst (m_istore (m_iload (m_iload (m_iload (m_bin (m_if2 (m_xgo hi) (m_iload (m_if1 (m_xgo hi) (m_text (m_iload (m_iload (m_bin (m_callt hi)))))))))))))))
theorem mobz_2313 : xBm bz_2313 := fun dl fs i1 i2 fin hi => (m_iload (m_iload (m_iload (m_bin (m_if2 (m_xgo hi) (m_iload (m_if1 (m_xgo hi) (m_text (m_iload (m_iload (m_bin (m_callt hi))))))))))))
theorem mobz_2314 : xBm bz_2314 := fun dl fs i1 i2 fin hi => (m_aload (m_getr (m_iload (m_iload (m_bin (m_ald (m_if2 (m_xgo hi) (m_iconst (m_xgo hi)))))))))
theorem mobz_2315 : xBm bz_2315 := fun dl fs i1 i2 fin hi => (m_iconst (m_istore (m_iinc (m_xgo hi))))
theorem mobz_2316 : xBm bz_2316 := fun dl fs i1 i2 fin hi => (m_istore (m_iinc (m_xgo hi)))
theorem mobz_2317 : xBm bz_2317 := fun dl fs i1 i2 fin hi => (m_iload (m_if1 (m_xgo hi) (m_iload (m_iret hi))))
theorem mobz_2318 : xBm bz_2318 := fun dl fs i1 i2 fin hi => (m_iload (m_iconst (m_bin (m_istore (m_iinc (m_xgo hi))))))
theorem mobz_2319 : xBm bz_2319 := fun dl fs i1 i2 fin hi => (m_iconst (m_iret hi))
theorem mobz_2320 : xBm bz_2320 := fun dl fs i1 i2 fin hi => (m_aload (m_callt hi))
theorem mobz_2321 : xBm bz_2321 := fun dl fs i1 i2 fin hi => (m_if1 m_no (m_aload (m_tval (m_iload (m_calls hi)))))
theorem mobz_2322 : xBm bz_2322 := fun dl fs i1 i2 fin hi => (m_cret hi)
theorem mobz_2323 : xBm bz_2323 := fun dl fs i1 i2 fin hi => (m_iconst (m_if1 m_no (m_aload (m_tcod (m_xgo hi)))))
theorem mobz_2324 : xBm bz_2324 := fun dl fs i1 i2 fin hi => (m_bret hi)
theorem mobz_2325 : xBm bz_2325 := fun dl fs i1 i2 fin hi => (m_aload (m_iload (m_iconst (m_callt hi))))
theorem mobz_2326 : xBm bz_2326 := fun dl fs i1 i2 fin hi => (m_iret hi)
theorem mobz_2327 : xBm bz_2327 := fun dl fs i1 i2 fin hi => (m_aload (m_callt hi))
theorem mobz_2328 : xBm bz_2328 := fun dl fs i1 i2 fin hi => (m_if1 m_no (m_aload (m_tval (m_iload (m_iload (m_aload (m_callt hi)))))))
theorem mobz_2329 : xBm bz_2329 := fun dl fs i1 i2 fin hi => (m_calls hi)
theorem mobz_2330 : xBm bz_2330 := fun dl fs i1 i2 fin hi => (m_xgo hi)
theorem mobz_2331 : xBm bz_2331 := fun dl fs i1 i2 fin hi => (m_iret hi)
theorem mobz_2332 : xBm bz_2332 := fun dl fs i1 i2 fin hi => (m_iconst (m_if1 m_no (m_aload (m_tcod (m_if1 m_no (m_iconst (m_xgo hi)))))))
theorem mobz_2333 : xBm bz_2333 := fun dl fs i1 i2 fin hi => (m_zret hi)
theorem mobz_2334 : xBm bz_2334 := fun dl fs i1 i2 fin hi => (m_aload (m_tval (m_tlen (m_aload (m_callt hi)))))
theorem mobz_2335 : xBm bz_2335 := fun dl fs i1 i2 fin hi => (m_ishra (m_iret hi))
theorem mobz_2336 : xBm bz_2336 := fun dl fs i1 i2 fin hi => (m_iload (m_if1 m_no (m_iload (m_iconst (m_if2 m_no (m_iconst (m_xgo hi)))))))
theorem mobz_2337 : xBm bz_2337 := fun dl fs i1 i2 fin hi => (m_zret hi)
theorem mobz_2338 : xBm bz_2338 := fun dl fs i1 i2 fin hi => (m_iload (m_aload (m_tlen (m_ckix (m_aload (m_iload (m_tald (m_iconst (m_bin (m_un (m_cret hi)))))))))))
theorem mobz_2339 : xBm bz_2339 := fun dl fs i1 i2 fin hi => (m_iload (m_calls hi))
theorem mobz_2340 : xBm bz_2340 := fun dl fs i1 i2 fin hi => (m_if1 (m_xgo hi) m_no)
theorem mobz_2341 : xBm bz_2341 := fun dl fs i1 i2 fin hi => (m_iload (m_iconst (m_mmax (m_istore (m_iload (m_aload (m_tlen (m_mmin (m_istore (m_iload (m_iload (m_if2 (m_xgo hi) m_no))))))))))))
theorem mobz_2342 : xBm bz_2342 := fun dl fs i1 i2 fin hi => (m_aload (m_iload (m_iload (m_iload (m_calls hi)))))
theorem mobz_2343 : xBm bz_2343 := fun dl fs i1 i2 fin hi => (m_iret hi)
theorem mobz_2344 : xBm bz_2344 := fun dl fs i1 i2 fin hi => (m_iload (m_un (m_istore (m_iload (m_istore (m_iload (m_iload (m_if2 (m_xgo hi) (m_aload (m_iload (m_tald (m_iload (m_if2 (m_xgo hi) (m_iload (m_iret hi)))))))))))))))
theorem mobz_2345 : xBm bz_2345 := fun dl fs i1 i2 fin hi => (m_iload (m_iload (m_if2 (m_xgo hi) (m_aload (m_iload (m_tald (m_iload (m_if2 (m_xgo hi) (m_iload (m_iret hi))))))))))
theorem mobz_2346 : xBm bz_2346 := fun dl fs i1 i2 fin hi => (m_iinc (m_xgo hi))
theorem mobz_2347 : xBm bz_2347 := fun dl fs i1 i2 fin hi => (m_iconst (m_iret hi))
theorem mobz_2348 : xBm bz_2348 := fun dl fs i1 i2 fin hi => (m_iconst (m_istore (m_aload (m_alen (m_istore (m_iload (m_iload (m_if2 (m_xgo hi) (m_aload (m_iload (m_iload (m_ast (m_iinc (m_xgo hi))))))))))))))
theorem mobz_2349 : xBm bz_2349 := fun dl fs i1 i2 fin hi => (m_iload (m_iload (m_if2 (m_xgo hi) (m_aload (m_iload (m_iload (m_ast (m_iinc (m_xgo hi)))))))))
theorem mobz_2350 : xBm bz_2350 := fun dl fs i1 i2 fin hi => (m_ret hi)
theorem mobz_2351 : xBm bz_2351 := fun dl fs i1 i2 fin hi => (m_aload (m_alen (m_iload (m_iload (m_calls hi)))))
theorem mobz_2352 : xBm bz_2352 := fun dl fs i1 i2 fin hi => (m_iload (m_istore (m_iload (m_iload (m_if2 (m_xgo hi) (m_aload (m_iload (m_lload (m_last (m_iinc (m_xgo hi)))))))))))
theorem mobz_2353 : xBm bz_2353 := fun dl fs i1 i2 fin hi => (m_iload (m_iload (m_if2 (m_xgo hi) (m_aload (m_iload (m_lload (m_last (m_iinc (m_xgo hi)))))))))
theorem mobz_2354 : xBm bz_2354 := fun dl fs i1 i2 fin hi => (m_ret hi)
theorem mobz_2355 : xBm bz_2355 := fun dl fs i1 i2 fin hi => (m_iload (m_iload (m_if2 (m_xgo hi) m_no)))
theorem mobz_2356 : xBm bz_2356 := fun dl fs i1 i2 fin hi => (m_iload (m_if1 (m_xgo hi) m_no))
theorem mobz_2357 : xBm bz_2357 := fun dl fs i1 i2 fin hi => (m_iload (m_iload (m_if2 (m_xgo hi) m_no)))
theorem mobz_2358 : xBm bz_2358 := fun dl fs i1 i2 fin hi => (m_ret hi)
theorem mobz_2359 : xBm bz_2359 := fun dl fs i1 i2 fin hi => (m_puti (m_iinc (m_xgo hi)))
theorem mobz_2360 : xBm bz_2360 := fun dl fs i1 i2 fin hi => (m_xgo hi)
theorem mobz_2361 : xBm bz_2361 := fun dl fs i1 i2 fin hi => (m_iload (m_if1 (m_xgo hi) (m_aload (m_getr (m_iload (m_callv hi))))))
theorem mobz_2362 : xBm bz_2362 := fun dl fs i1 i2 fin hi => (m_iload (m_if1 (m_xgo hi) (m_aload (m_getr (m_aload (m_getr (m_geti (m_callv hi))))))))
theorem mobz_2363 : xBm bz_2363 := fun dl fs i1 i2 fin hi => (m_iload (m_if1 m_no (m_aload (m_getr (m_callv hi)))))
theorem mobz_2364 : xBm bz_2364 := fun dl fs i1 i2 fin hi => (m_aload (m_iconst (m_newa (m_putr (m_aload (m_iconst (m_newa (m_putr (m_aload (m_aload (m_putr (m_aload (m_aload (m_putr (m_ret hi)))))))))))))))
theorem mobz_2365 : xBm bz_2365 := fun dl fs i1 i2 fin hi => (m_callv hi)
theorem mobz_2366 : xBm bz_2366 := fun dl fs i1 i2 fin hi => (m_getr (m_getr (m_iload (m_iload (m_ast (m_xgo hi))))))
theorem mobz_2367 : xBm bz_2367 := fun dl fs i1 i2 fin hi => (m_if2 m_no (m_aload (m_getr (m_getr (m_iload (m_ald (m_iconst (m_if2 (m_xgo hi) m_no))))))))
theorem mobz_2368 : xBm bz_2368 := fun dl fs i1 i2 fin hi => (m_iload (m_callv hi))
theorem mobz_2369 : xBm bz_2369 := fun dl fs i1 i2 fin hi => (m_aload (m_getr (m_getr (m_iload (m_ald (m_istore (m_xgo hi)))))))
theorem mobz_2370 : xBm bz_2370 := fun dl fs i1 i2 fin hi => (m_calls hi)
theorem mobz_2371 : xBm bz_2371 := fun dl fs i1 i2 fin hi => (m_ast (m_aload (m_getr (m_getr (m_iload (m_ald (m_istore (m_iload (m_if1 (m_xgo hi) (m_iinc (m_aload (m_getr (m_getr (m_iload (m_ald (m_iconst (m_if2 (m_xgo hi) (m_aload (m_iload (m_iload (m_callv hi)))))))))))))))))))))
theorem mobz_2372 : xBm bz_2372 := fun dl fs i1 i2 fin hi => (m_getr (m_getr (m_iload (m_iconst (m_ast (m_aload (m_getr (m_getr (m_iload (m_iload (m_ast (m_aload (m_getr (m_getr (m_iload (m_aload (m_geti (m_aload (m_getr (m_getr (m_iload (m_ald (m_xgo hi)))))))))))))))))))))))
theorem mobz_2373 : xBm bz_2373 := fun dl fs i1 i2 fin hi => (m_getr (m_iload (m_ald (m_callv hi))))
theorem mobz_2374 : xBm bz_2374 := fun dl fs i1 i2 fin hi => (m_istore (m_iload (m_if1 (m_xgo hi) m_no)))
theorem mobz_2375 : xBm bz_2375 := fun dl fs i1 i2 fin hi => (m_if1 (m_xgo hi) m_no)
theorem mobz_2376 : xBm bz_2376 := fun dl fs i1 i2 fin hi => (m_aload (m_getr (m_getr (m_iload (m_iconst (m_ast (m_aload (m_getr (m_getr (m_iload (m_aload (m_geti (m_ast (m_ret hi))))))))))))))
theorem mobz_2377 : xBm bz_2377 := fun dl fs i1 i2 fin hi => (m_iconst (m_bin (m_puti (m_aload (m_getr (m_iload (m_aload (m_geti (m_ast (m_aload (m_getr (m_getr (m_iload (m_iconst (m_ast (m_aload (m_getr (m_getr (m_iload (m_aload (m_geti (m_ast (m_xgo hi)))))))))))))))))))))))
theorem mobz_2378 : xBm bz_2378 := fun dl fs i1 i2 fin hi => (m_getr (m_aload (m_geti (m_ald (m_ast (m_xgo hi))))))
theorem mobz_2379 : xBm bz_2379 := fun dl fs i1 i2 fin hi => (m_istore (m_iload (m_if1 (m_xgo hi) (m_iload (m_iconst (m_if2 (m_xgo hi) (m_aload (m_getr (m_getr (m_iload (m_ald (m_istore (m_aload (m_getr (m_getr (m_iload (m_ald (m_istore (m_iload (m_if1 (m_xgo hi) (m_aload (m_aload (m_xgo hi)))))))))))))))))))))))
theorem mobz_2380 : xBm bz_2380 := fun dl fs i1 i2 fin hi => (m_iload (m_iconst (m_bin (m_ald (m_iload (m_callv hi))))))
theorem mobz_2381 : xBm bz_2381 := fun dl fs i1 i2 fin hi => (m_getr (m_iload (m_ald (m_callv hi))))
theorem mobz_2382 : xBm bz_2382 := fun dl fs i1 i2 fin hi => (m_getr (m_getr (m_iload (m_iconst (m_ast (m_aload (m_getr (m_getr (m_iload (m_aload (m_getr (m_iconst (m_ald (m_ast (m_aload (m_getr (m_getr (m_iload (m_aload (m_getr (m_iconst (m_ald (m_xgo hi)))))))))))))))))))))))
theorem mobz_2383 : xBm bz_2383 := fun dl fs i1 i2 fin hi => (m_getr (m_iload (m_aload (m_getr (m_iload (m_ald (m_ast (m_aload (m_getr (m_getr (m_iload (m_ald (m_iret hi)))))))))))))
theorem mobz_2384 : xBm bz_2384 := fun dl fs i1 i2 fin hi => (m_iconst (m_calls hi))
theorem mobz_2385 : xBm bz_2385 := fun dl fs i1 i2 fin hi => (m_aload (m_iconst (m_newa (m_putr (m_aload (m_iconst (m_newa (m_putr (m_aload (m_iconst (m_puti (m_ret hi))))))))))))
theorem mobz_2386 : xBm bz_2386 := fun dl fs i1 i2 fin hi => (m_iload (m_ast (m_aload (m_getr (m_iload (m_iload (m_ast (m_aload (m_getr (m_iload (m_iconst (m_ast (m_aload (m_getr (m_iload (m_iconst (m_ast (m_aload (m_getr (m_iload (m_iconst (m_ast (m_xgo hi)))))))))))))))))))))))
theorem mobz_2387 : xBm bz_2387 := fun dl fs i1 i2 fin hi => (m_aload (m_putr (m_iconst (m_istore (m_iload (m_iconst (m_if2 (m_xgo hi) (m_aload (m_getr (m_iconst (m_iload (m_bin (m_iload (m_i2l (m_iconst (m_lsh (m_last (m_iinc (m_xgo hi)))))))))))))))))))
theorem mobz_2388 : xBm bz_2388 := fun dl fs i1 i2 fin hi => (m_iload (m_callv hi))
theorem mobz_2389 : xBm bz_2389 := fun dl fs i1 i2 fin hi => (m_bin (m_istore (m_iinc (m_xgo hi))))
theorem mobz_2390 : xBm bz_2390 := fun dl fs i1 i2 fin hi => (m_iconst (m_bin (m_if2 (m_xgo hi) m_no)))
theorem mobz_2391 : xBm bz_2391 := fun dl fs i1 i2 fin hi => (m_getr (m_iconst (m_aload (m_geti (m_bin (m_iload (m_i2l (m_last (m_xgo hi)))))))))
theorem mobz_2392 : xBm bz_2392 := fun dl fs i1 i2 fin hi => (m_iload (m_aload (m_getr (m_aload (m_iload (m_callv hi))))))
theorem mobz_2393 : xBm bz_2393 := fun dl fs i1 i2 fin hi => (m_ret hi)
theorem mobz_2394 : xBm bz_2394 := fun dl fs i1 i2 fin hi => (m_if1 (m_xgo hi) (m_lconst (m_xgo hi)))
theorem mobz_2395 : xBm bz_2395 := fun dl fs i1 i2 fin hi => (m_iload (m_callv hi))
theorem mobz_2396 : xBm bz_2396 := fun dl fs i1 i2 fin hi => (m_last (m_ret hi))
theorem mobz_2397 : xBm bz_2397 := fun dl fs i1 i2 fin hi => (m_aload (m_getr (m_iconst (m_aload (m_geti (m_bin (m_lald (m_iconst (m_lsh (m_l2i (m_istore (m_aload (m_iload (m_callv hi))))))))))))))
theorem mobz_2398 : xBm bz_2398 := fun dl fs i1 i2 fin hi => (m_aload (m_geti (m_bin (m_lald (m_iconst (m_lsh (m_l2i (m_istore (m_aload (m_iload (m_callv hi)))))))))))
theorem mobz_2399 : xBm bz_2399 := fun dl fs i1 i2 fin hi => (m_iload (m_iret hi))
theorem mobz_2400 : xBm bz_2400 := fun dl fs i1 i2 fin hi => (m_puti (m_iload (m_iret hi)))
theorem mobz_2401 : xBm bz_2401 := fun dl fs i1 i2 fin hi => (m_ret hi)
theorem mobz_2402 : xBm bz_2402 := fun dl fs i1 i2 fin hi => (m_aload (m_getr (m_getr (m_iload (m_ald (m_iconst (m_if2 (m_xgo hi) (m_aload (m_iload (m_iload (m_callv hi)))))))))))
theorem mobz_2403 : xBm bz_2403 := fun dl fs i1 i2 fin hi => (m_ret hi)
theorem mobz_2404 : xBm bz_2404 := fun dl fs i1 i2 fin hi => (m_geti (m_ald (m_iload (m_bin (m_iload (m_bin (m_ast (m_aload (m_getr (m_aload (m_geti (m_aload (m_getr (m_iload (m_ald (m_ast (m_aload (m_dup (m_geti (m_iconst (m_bin (m_puti (m_xgo hi)))))))))))))))))))))))
theorem mobz_2405 : xBm bz_2405 := fun dl fs i1 i2 fin hi => (m_ret hi)
theorem mobz_2406 : xBm bz_2406 := fun dl fs i1 i2 fin hi => (m_dup (m_geti (m_iconst (m_bin (m_puti (m_ret hi))))))
theorem mobz_2407 : xBm bz_2407 := fun dl fs i1 i2 fin hi => (m_aload (m_iconst (m_newa (m_putr (m_aload (m_iconst (m_newa (m_putr (m_aload (m_iconst (m_newa (m_putr (m_aload (m_aload (m_putr (m_aload (m_new (m_dup (m_calli hi)))))))))))))))))))
theorem mobz_2408 : xBm bz_2408 := fun dl fs i1 i2 fin hi => (m_aload (m_iconst (m_newa (m_putr (m_aload (m_iconst (m_newa (m_putr (m_aload (m_aload (m_putr (m_aload (m_aload (m_putr (m_ret hi)))))))))))))))
theorem mobz_2409 : xBm bz_2409 := fun dl fs i1 i2 fin hi => (m_ret hi)
theorem mobz_2410 : xBm bz_2410 := fun dl fs i1 i2 fin hi => (m_iconst (m_divr (m_bin (m_lsh (m_lbin (m_last (m_aload (m_dup (m_geti (m_iconst (m_bin (m_puti (m_ret hi)))))))))))))
theorem mobz_2411 : xBm bz_2411 := fun dl fs i1 i2 fin hi => (m_dup (m_geti (m_iconst (m_bin (m_puti (m_ret hi))))))
theorem mobz_2412 : xBm bz_2412 := fun dl fs i1 i2 fin hi => (m_iconst (m_istore (m_aload (m_iconst (m_callv hi)))))
theorem mobz_2413 : xBm bz_2413 := fun dl fs i1 i2 fin hi => (m_iconst (m_istore (m_iload (m_aload (m_getr (m_geti (m_if2 (m_xgo hi) (m_iload (m_iconst (m_if2 (m_xgo hi) m_no))))))))))
theorem mobz_2414 : xBm bz_2414 := fun dl fs i1 i2 fin hi => (m_getr (m_getr (m_iload (m_iload (m_ast (m_aload (m_getr (m_getr (m_iload (m_aload (m_callv hi)))))))))))
theorem mobz_2415 : xBm bz_2415 := fun dl fs i1 i2 fin hi => (m_iload (m_ast (m_aload (m_getr (m_iconst (m_aload (m_getr (m_getr (m_iload (m_ald (m_iconst (m_iload (m_callv hi)))))))))))))
theorem mobz_2416 : xBm bz_2416 := fun dl fs i1 i2 fin hi => (m_aload (m_getr (m_getr (m_iload (m_ald (m_iconst (m_iload (m_callv hi))))))))
theorem mobz_2417 : xBm bz_2417 := fun dl fs i1 i2 fin hi => (m_aload (m_iconst (m_newa (m_putr (m_aload (m_iconst (m_newa (m_putr (m_aload (m_iconst (m_newa (m_putr (m_aload (m_iconst (m_newa (m_putr (m_ret hi)))))))))))))))))
theorem mobz_2418 : xBm bz_2418 := fun dl fs i1 i2 fin hi => (m_aload (m_iconst (m_newa (m_putr (m_aload (m_aload (m_putr (m_aload (m_aload (m_putr (m_ret hi)))))))))))
theorem mobz_2419 : xBm bz_2419 := fun dl fs i1 i2 fin hi => (m_putr (m_aload (m_iconst (m_newa (m_putr (m_aload (m_aload (m_putr (m_aload (m_aload (m_putr (m_aload (m_new (m_dup (m_aload (m_aload (m_calli hi)))))))))))))))))
theorem mobz_2420 : xBm bz_2420 := fun dl fs i1 i2 fin hi => (m_aload (m_iconst (m_newa (m_putr (m_aload (m_iconst (m_newa (m_putr (m_aload (m_iconst (m_newa (m_putr (m_aload (m_iconst (m_newa (m_putr (m_aload (m_iconst (m_newa (m_putr (m_aload (m_iconst (m_xgo hi)))))))))))))))))))))))
theorem mobz_2421 : xBm bz_2421 := fun dl fs i1 i2 fin hi => (m_iconst (m_iconst (m_ast (m_aload (m_getr (m_iconst (m_iconst (m_ast (m_aload (m_getr (m_iconst (m_iconst (m_ast (m_aload (m_getr (m_iconst (m_iconst (m_iconst (m_calls hi)))))))))))))))))))
theorem mobz_2422 : xBm bz_2422 := fun dl fs i1 i2 fin hi => (m_aload (m_getr (m_iload (m_iload (m_ast (m_ret hi))))))
theorem mobz_2423 : xBm bz_2423 := fun dl fs i1 i2 fin hi => (m_iload (m_bin (m_ast (m_aload (m_getr (m_iload (m_iload (m_ast (m_aload (m_getr (m_iload (m_iload (m_ast (m_aload (m_getr (m_iload (m_dup2 (m_ald (m_iconst (m_bin (m_ast (m_iload (m_xgo hi)))))))))))))))))))))))
theorem mobz_2424 : xBm bz_2424 := fun dl fs i1 i2 fin hi => (m_ast (m_aload (m_getr (m_iload (m_iload (m_iconst (m_mmin (m_ast (m_aload (m_getr (m_iload (m_iconst (m_ast (m_aload (m_getr (m_iload (m_iconst (m_ast (m_aload (m_getr (m_iload (m_iconst (m_xgo hi)))))))))))))))))))))))
theorem mobz_2425 : xBm bz_2425 := fun dl fs i1 i2 fin hi => (m_ast (m_aload (m_getr (m_iload (m_iconst (m_ast (m_iload (m_iret hi))))))))
theorem mobz_2426 : xBm bz_2426 := fun dl fs i1 i2 fin hi => (m_iconst (m_copy (m_ret hi)))
theorem mobz_2427 : xBm bz_2427 := fun dl fs i1 i2 fin hi => (m_aload (m_aload (m_geti (m_puti (m_aload (m_aload (m_geti (m_puti (m_ret hi)))))))))
theorem mobz_2428 : xBm bz_2428 := fun dl fs i1 i2 fin hi => (m_ret hi)
theorem mobz_2429 : xBm bz_2429 := fun dl fs i1 i2 fin hi => (m_aload (m_iconst (m_newa (m_putr (m_aload (m_iconst (m_newa (m_putr (m_aload (m_iconst (m_newa (m_putr (m_aload (m_iconst (m_newa (m_putr (m_aload (m_iconst (m_newa (m_putr (m_aload (m_aload (m_xgo hi)))))))))))))))))))))))
theorem mobz_2430 : xBm bz_2430 := fun dl fs i1 i2 fin hi => (m_iload (m_ast (m_aload (m_getr (m_iload (m_iconst (m_bin (m_iload (m_ast (m_aload (m_getr (m_iload (m_iconst (m_bin (m_iload (m_ast (m_aload (m_dup (m_geti (m_iconst (m_bin (m_puti (m_xgo hi)))))))))))))))))))))))
theorem mobz_2431 : xBm bz_2431 := fun dl fs i1 i2 fin hi => (m_ald (m_aload (m_getr (m_getr (m_iload (m_ald (m_if2 (m_xgo hi) (m_iconst (m_xgo hi)))))))))
theorem mobz_2432 : xBm bz_2432 := fun dl fs i1 i2 fin hi => (m_iload (m_iconst (m_if2 (m_xgo hi) (m_aload (m_getr (m_getr (m_aload (m_getr (m_getr (m_iload (m_ald (m_ald (m_if1 (m_xgo hi) m_no)))))))))))))
theorem mobz_2433 : xBm bz_2433 := fun dl fs i1 i2 fin hi => (m_aload (m_getr (m_getr (m_aload (m_getr (m_getr (m_iload (m_ald (m_ald (m_if1 (m_xgo hi) m_no))))))))))
theorem mobz_2434 : xBm bz_2434 := fun dl fs i1 i2 fin hi => (m_iconst (m_bin (m_ald (m_istore (m_aload (m_getr (m_iload (m_iconst (m_bin (m_ald (m_istore (m_aload (m_iload (m_iload (m_iload (m_callv hi))))))))))))))))
theorem mobz_2435 : xBm bz_2435 := fun dl fs i1 i2 fin hi => (m_bin (m_iconst (m_bin (m_dup2 (m_ald (m_iload (m_iload (m_bin (m_bin (m_ast (m_iinc (m_xgo hi))))))))))))
theorem mobz_2436 : xBm bz_2436 := fun dl fs i1 i2 fin hi => (m_xgo hi)
theorem mobz_2437 : xBm bz_2437 := fun dl fs i1 i2 fin hi => (m_aload (m_getr (m_getr (m_iload (m_ald (m_istore (m_xgo hi)))))))
theorem mobz_2438 : xBm bz_2438 := fun dl fs i1 i2 fin hi => (m_aload (m_getr (m_getr (m_iload (m_ald (m_aload (m_aload (m_getr (m_getr (m_iload (m_ald (m_iconst (m_callv hi)))))))))))))
theorem mobz_2439 : xBm bz_2439 := fun dl fs i1 i2 fin hi => (m_callv hi)
theorem mobz_2440 : xBm bz_2440 := fun dl fs i1 i2 fin hi => (m_ast (m_ret hi))
theorem mobz_2441 : xBm bz_2441 := fun dl fs i1 i2 fin hi => (m_istore (m_iload (m_aload (m_getr (m_iload (m_iconst (m_bin (m_ald (m_if2 (m_xgo hi) (m_iconst (m_istore (m_iload (m_istore (m_xgo hi))))))))))))))
theorem mobz_2442 : xBm bz_2442 := fun dl fs i1 i2 fin hi => (m_iconst (m_bin (m_ald (m_istore (m_aload (m_getr (m_iload (m_iconst (m_bin (m_ald (m_istore (m_iload (m_iload (m_bin (m_iconst (m_if2 (m_xgo hi) (m_aload (m_iload (m_aload (m_getr (m_iload (m_ald (m_xgo hi)))))))))))))))))))))))
theorem mobz_2443 : xBm bz_2443 := fun dl fs i1 i2 fin hi => (m_callv hi)
theorem mobz_2444 : xBm bz_2444 := fun dl fs i1 i2 fin hi => (m_iconst (m_xgo hi))
theorem mobz_2445 : xBm bz_2445 := fun dl fs i1 i2 fin hi => (m_iload (m_ald (m_istore (m_xgo hi))))
theorem mobz_2446 : xBm bz_2446 := fun dl fs i1 i2 fin hi => (m_iload (m_if2 (m_xgo hi) (m_aload (m_getr (m_iload (m_ald (m_xgo hi)))))))
theorem mobz_2447 : xBm bz_2447 := fun dl fs i1 i2 fin hi => (m_iload (m_ald (m_istore (m_xgo hi))))
theorem mobz_2448 : xBm bz_2448 := fun dl fs i1 i2 fin hi => (m_if1 (m_xgo hi) m_no)
theorem mobz_2449 : xBm bz_2449 := fun dl fs i1 i2 fin hi => (m_iload (m_iconst (m_if2 (m_xgo hi) (m_aload (m_iload (m_iload (m_callv hi)))))))
theorem mobz_2450 : xBm bz_2450 := fun dl fs i1 i2 fin hi => (m_iload (m_if1 (m_xgo hi) m_no))
theorem mobz_2451 : xBm bz_2451 := fun dl fs i1 i2 fin hi => (m_callv hi)
theorem mobz_2452 : xBm bz_2452 := fun dl fs i1 i2 fin hi => (m_aload (m_iconst (m_newa (m_putr (m_aload (m_iconst (m_newa (m_putr (m_aload (m_iconst (m_newa (m_putr (m_aload (m_iconst (m_newa (m_putr (m_aload (m_iconst (m_newa (m_putr (m_aload (m_iconst (m_xgo hi)))))))))))))))))))))))
theorem mobz_2453 : xBm bz_2453 := fun dl fs i1 i2 fin hi => (m_aload (m_callv hi))
theorem mobz_2454 : xBm bz_2454 := fun dl fs i1 i2 fin hi => (m_aload (m_aload (m_callv hi)))
theorem mobz_2455 : xBm bz_2455 := fun dl fs i1 i2 fin hi => (m_iload (m_iret hi))
theorem mobz_2456 : xBm bz_2456 := fun dl fs i1 i2 fin hi => (m_iload (m_ast (m_aload (m_getr (m_iload (m_dup2 (m_ald (m_iconst (m_bin (m_ast (m_aload (m_dup (m_geti (m_iconst (m_bin (m_puti (m_ret hi)))))))))))))))))
theorem mobz_2457 : xBm bz_2457 := fun dl fs i1 i2 fin hi => (m_aload (m_getr (m_iload (m_ald (m_istore (m_iload (m_if1 (m_xgo hi) (m_aload (m_getr (m_iload (m_ald (m_iconst (m_if2 (m_xgo hi) m_no)))))))))))))
theorem mobz_2458 : xBm bz_2458 := fun dl fs i1 i2 fin hi => (m_iload (m_ast (m_aload (m_getr (m_aload (m_geti (m_iconst (m_ast (m_aload (m_getr (m_aload (m_geti (m_iconst (m_ast (m_aload (m_dup (m_geti (m_iconst (m_bin (m_puti (m_ret hi)))))))))))))))))))))
theorem mobz_2459 : xBm bz_2459 := fun dl fs i1 i2 fin hi => (m_geti (m_iconst (m_ast (m_aload (m_dup (m_geti (m_iconst (m_bin (m_puti (m_ret hi))))))))))
theorem mobz_2460 : xBm bz_2460 := fun dl fs i1 i2 fin hi => (m_getr (m_aload (m_getr (m_iload (m_ald (m_ald (m_iconst (m_if2 (m_xgo hi) (m_aload (m_getr (m_aload (m_getr (m_iload (m_ald (m_iconst (m_bin (m_ald (m_iconst (m_if2 (m_xgo hi) (m_aload (m_getr (m_aload (m_xgo hi)))))))))))))))))))))))
theorem mobz_2461 : xBm bz_2461 := fun dl fs i1 i2 fin hi => (m_getr (m_iload (m_ald (m_ald (m_iconst (m_if2 (m_xgo hi) (m_aload (m_getr (m_aload (m_getr (m_iload (m_ald (m_iconst (m_bin (m_ald (m_iconst (m_if2 (m_xgo hi) (m_aload (m_getr (m_aload (m_getr (m_iload (m_xgo hi)))))))))))))))))))))))
theorem mobz_2462 : xBm bz_2462 := fun dl fs i1 i2 fin hi => (m_aload (m_getr (m_aload (m_getr (m_iload (m_ald (m_ald (m_istore (m_xgo hi)))))))))
theorem mobz_2463 : xBm bz_2463 := fun dl fs i1 i2 fin hi => (m_iload (m_ald (m_ald (m_istore (m_xgo hi)))))
theorem mobz_2464 : xBm bz_2464 := fun dl fs i1 i2 fin hi => (m_aload (m_callv hi))
theorem mobz_2465 : xBm bz_2465 := fun dl fs i1 i2 fin hi => (m_iconst (m_xgo hi))
theorem mobz_2466 : xBm bz_2466 := fun dl fs i1 i2 fin hi => (m_aload (m_getr (m_iload (m_aload (m_getr (m_iload (m_ald (m_ast (m_aload (m_getr (m_iload (m_aload (m_getr (m_iload (m_ald (m_ast (m_xgo hi)))))))))))))))))
theorem mobz_2467 : xBm bz_2467 := fun dl fs i1 i2 fin hi => (m_iload (m_iret hi))
theorem mobz_2468 : xBm bz_2468 := fun dl fs i1 i2 fin hi => (m_iret hi)
theorem mobz_2469 : xBm bz_2469 := fun dl fs i1 i2 fin hi => (m_puti (m_iconst (m_istore (m_iload (m_iload (m_if2 (m_xgo hi) (m_iload (m_iload (m_if2 (m_xgo hi) (m_aload (m_getr (m_aload (m_geti (m_aload (m_aload (m_getr (m_iload (m_ald (m_iload (m_callv hi))))))))))))))))))))
theorem mobz_2470 : xBm bz_2470 := fun dl fs i1 i2 fin hi => (m_ast (m_xgo hi))
theorem mobz_2471 : xBm bz_2471 := fun dl fs i1 i2 fin hi => (m_iconst (m_bin (m_puti (m_iinc (m_xgo hi)))))
theorem mobz_2472 : xBm bz_2472 := fun dl fs i1 i2 fin hi => (m_puti (m_iinc (m_xgo hi)))
theorem mobz_2473 : xBm bz_2473 := fun dl fs i1 i2 fin hi => (m_aload (m_callv hi))
theorem mobz_2474 : xBm bz_2474 := fun dl fs i1 i2 fin hi => (m_iconst (m_if2 (m_xgo hi) (m_iconst (m_xgo hi))))
theorem mobz_2475 : xBm bz_2475 := fun dl fs i1 i2 fin hi => (m_getr (m_iload (m_aload (m_geti (m_ast (m_aload (m_dup (m_geti (m_iconst (m_bin (m_puti (m_ret hi))))))))))))
theorem mobz_2476 : xBm bz_2476 := fun dl fs i1 i2 fin hi => (m_aload (m_getr (m_iload (m_iload (m_ast (m_xgo hi))))))
theorem mobz_2477 : xBm bz_2477 := fun dl fs i1 i2 fin hi => (m_if2 (m_xgo hi) m_no)
theorem mobz_2478 : xBm bz_2478 := fun dl fs i1 i2 fin hi => (m_getr (m_aload (m_getr (m_iload (m_ald (m_iconst (m_ast (m_xgo hi))))))))
theorem mobz_2479 : xBm bz_2479 := fun dl fs i1 i2 fin hi => (m_aload (m_getr (m_aload (m_geti (m_iload (m_ast (m_aload (m_getr (m_aload (m_geti (m_iload (m_ast (m_aload (m_getr (m_aload (m_geti (m_iload (m_ast (m_aload (m_dup (m_geti (m_iconst (m_xgo hi)))))))))))))))))))))))
theorem mobz_2480 : xBm bz_2480 := fun dl fs i1 i2 fin hi => (m_aload (m_geti (m_iload (m_ast (m_aload (m_dup (m_geti (m_iconst (m_bin (m_puti (m_aload (m_geti (m_istore (m_aload (m_getr (m_iload (m_ald (m_istore (m_xgo hi)))))))))))))))))))
theorem mobz_2481 : xBm bz_2481 := fun dl fs i1 i2 fin hi => (m_ret hi)
theorem mobz_2482 : xBm bz_2482 := fun dl fs i1 i2 fin hi => (m_dup (m_geti (m_iconst (m_bin (m_puti (m_aload (m_getr (m_iload (m_aload (m_getr (m_iload (m_ald (m_ast (m_xgo hi))))))))))))))
theorem mobz_2483 : xBm bz_2483 := fun dl fs i1 i2 fin hi => (m_aload (m_iconst (m_callv hi)))
theorem mobz_2484 : xBm bz_2484 := fun dl fs i1 i2 fin hi => (m_iload (m_iconst (m_ast (m_aload (m_getr (m_iload (m_iconst (m_ast (m_aload (m_getr (m_iload (m_iload (m_ast (m_aload (m_getr (m_iload (m_iconst (m_ast (m_iload (m_iret hi))))))))))))))))))))
theorem mobz_2485 : xBm bz_2485 := fun dl fs i1 i2 fin hi => (m_xgo hi)
theorem mobz_2486 : xBm bz_2486 := fun dl fs i1 i2 fin hi => (m_callv hi)
theorem mobz_2487 : xBm bz_2487 := fun dl fs i1 i2 fin hi => (m_aload (m_callv hi))
theorem mobz_2488 : xBm bz_2488 := fun dl fs i1 i2 fin hi => (m_iload (m_iret hi))
theorem mobz_2489 : xBm bz_2489 := fun dl fs i1 i2 fin hi => (m_callv hi)
theorem mobz_2490 : xBm bz_2490 := fun dl fs i1 i2 fin hi => (m_iload (m_if1 (m_xgo hi) (m_aload (m_iconst (m_callv hi)))))
theorem mobz_2491 : xBm bz_2491 := fun dl fs i1 i2 fin hi => (m_iconst (m_callv hi))
theorem mobz_2492 : xBm bz_2492 := fun dl fs i1 i2 fin hi => (m_callv hi)
theorem mobz_2493 : xBm bz_2493 := fun dl fs i1 i2 fin hi => (m_iret hi)
theorem mobz_2494 : xBm bz_2494 := fun dl fs i1 i2 fin hi => (m_iconst (m_iret hi))
theorem mobz_2495 : xBm bz_2495 := fun dl fs i1 i2 fin hi => (m_getr (m_iload (m_aload (m_geti (m_ast (m_aload (m_getr (m_aload (m_geti (m_iconst (m_ast (m_aload (m_getr (m_aload (m_geti (m_iconst (m_ast (m_aload (m_getr (m_aload (m_geti (m_iconst (m_xgo hi)))))))))))))))))))))))
theorem mobz_2496 : xBm bz_2496 := fun dl fs i1 i2 fin hi => (m_aload (m_getr (m_iload (m_iload (m_ast (m_aload (m_getr (m_iload (m_aload (m_geti (m_iload (m_bin (m_ast (m_xgo hi))))))))))))))
theorem mobz_2497 : xBm bz_2497 := fun dl fs i1 i2 fin hi => (m_iconst (m_bin (m_puti (m_ret hi))))
theorem mobz_2498 : xBm bz_2498 := fun dl fs i1 i2 fin hi => (m_iload (m_iconst (m_ast (m_aload (m_getr (m_iload (m_iconst (m_ast (m_aload (m_getr (m_iload (m_iconst (m_ast (m_aload (m_getr (m_iload (m_iconst (m_ast (m_iload (m_iret hi))))))))))))))))))))
theorem mobz_2499 : xBm bz_2499 := fun dl fs i1 i2 fin hi => (m_iload (m_iret hi))
theorem mobz_2500 : xBm bz_2500 := fun dl fs i1 i2 fin hi => (m_bin (m_ast (m_aload (m_getr (m_getr (m_iload (m_aload (m_iload (m_callv hi)))))))))
theorem mobz_2501 : xBm bz_2501 := fun dl fs i1 i2 fin hi => (m_ret hi)
theorem mobz_2502 : xBm bz_2502 := fun dl fs i1 i2 fin hi => (m_getr (m_iload (m_iconst (m_bin (m_ald (m_iload (m_callv hi)))))))
theorem mobz_2503 : xBm bz_2503 := fun dl fs i1 i2 fin hi => (m_ast (m_aload (m_getr (m_getr (m_iload (m_iconst (m_ast (m_ret hi))))))))
theorem mobz_2504 : xBm bz_2504 := fun dl fs i1 i2 fin hi => (m_iload (m_iret hi))
theorem mobz_2505 : xBm bz_2505 := fun dl fs i1 i2 fin hi => (m_aload (m_getr (m_iload (m_aload (m_geti (m_ast (m_aload (m_geti (m_iconst (m_bin (m_iret hi)))))))))))
theorem mobz_2506 : xBm bz_2506 := fun dl fs i1 i2 fin hi => (m_newa (m_putr (m_aload (m_iconst (m_newa (m_putr (m_aload (m_iconst (m_newa (m_putr (m_aload (m_iconst (m_newa (m_putr (m_aload (m_iconst (m_newa (m_putr (m_aload (m_iconst (m_newa (m_putr (m_xgo hi)))))))))))))))))))))))
theorem mobz_2507 : xBm bz_2507 := fun dl fs i1 i2 fin hi => (m_iret hi)
theorem mobz_2508 : xBm bz_2508 := fun dl fs i1 i2 fin hi => (m_ast (m_aload (m_getr (m_iload (m_iconst (m_ast (m_aload (m_getr (m_iload (m_iconst (m_ast (m_aload (m_getr (m_iload (m_iload (m_iconst (m_if2 (m_xgo hi) (m_iconst (m_xgo hi)))))))))))))))))))
theorem mobz_2509 : xBm bz_2509 := fun dl fs i1 i2 fin hi => (m_putr (m_aload (m_aload (m_putr (m_ret hi)))))
theorem mobz_2510 : xBm bz_2510 := fun dl fs i1 i2 fin hi => (m_ret hi)
theorem mobz_2511 : xBm bz_2511 := fun dl fs i1 i2 fin hi => (m_callv hi)
theorem mobz_2512 : xBm bz_2512 := fun dl fs i1 i2 fin hi => (m_newa (m_putr (m_aload (m_iconst (m_newa (m_putr (m_aload (m_iconst (m_newa (m_putr (m_aload (m_iconst (m_newa (m_putr (m_aload (m_iconst (m_newa (m_putr (m_aload (m_iconst (m_newa (m_putr (m_xgo hi)))))))))))))))))))))))
theorem mobz_2513 : xBm bz_2513 := fun dl fs i1 i2 fin hi => (m_getr (m_iload (m_ald (m_iconst (m_bin (m_ald (m_iconst (m_if2 (m_xgo hi) (m_aload (m_getr (m_aload (m_getr (m_iload (m_ald (m_iconst (m_ast (m_xgo hi)))))))))))))))))
theorem mobz_2514 : xBm bz_2514 := fun dl fs i1 i2 fin hi => (m_ald (m_iconst (m_bin (m_ald (m_iconst (m_if2 (m_xgo hi) (m_aload (m_getr (m_aload (m_getr (m_iload (m_ald (m_iconst (m_ast (m_xgo hi)))))))))))))))
theorem mobz_2515 : xBm bz_2515 := fun dl fs i1 i2 fin hi => (m_bin (m_puti (m_aload (m_geti (m_istore (m_aload (m_getr (m_iload (m_ald (m_istore (m_xgo hi)))))))))))
theorem mobz_2516 : xBm bz_2516 := fun dl fs i1 i2 fin hi => (m_ast (m_aload (m_getr (m_aload (m_geti (m_iconst (m_ast (m_aload (m_getr (m_aload (m_geti (m_iconst (m_ast (m_aload (m_getr (m_aload (m_geti (m_iconst (m_ast (m_aload (m_dup (m_geti (m_xgo hi)))))))))))))))))))))))
theorem mobz_2517 : xBm bz_2517 := fun dl fs i1 i2 fin hi => (m_aload (m_iconst (m_newa (m_putr (m_aload (m_iconst (m_newa (m_putr (m_aload (m_iconst (m_newa (m_putr (m_aload (m_iconst (m_newa (m_putr (m_aload (m_iconst (m_iconst (m_iconst (m_iconst (m_callv hi))))))))))))))))))))))
theorem mobz_2518 : xBm bz_2518 := fun dl fs i1 i2 fin hi => (m_aload (m_iconst (m_newa (m_putr (m_aload (m_iconst (m_newa (m_putr (m_aload (m_iconst (m_newa (m_putr (m_aload (m_iconst (m_newa (m_putr (m_aload (m_iconst (m_newa (m_putr (m_aload (m_iconst (m_xgo hi)))))))))))))))))))))))
theorem mobz_2519 : xBm bz_2519 := fun dl fs i1 i2 fin hi => (m_iconst (m_bin (m_puti (m_aload (m_geti (m_iconst (m_bin (m_iret hi))))))))
theorem mobz_2520 : xBm bz_2520 := fun dl fs i1 i2 fin hi => (m_newa (m_putr (m_aload (m_iconst (m_newa (m_putr (m_aload (m_iconst (m_newa (m_putr (m_aload (m_iconst (m_newa (m_putr (m_aload (m_iconst (m_newa (m_putr (m_aload (m_iconst (m_newa (m_putr (m_xgo hi)))))))))))))))))))))))
theorem mobz_2521 : xBm bz_2521 := fun dl fs i1 i2 fin hi => (m_aload (m_iconst (m_newa (m_putr (m_aload (m_iconst (m_newa (m_putr (m_aload (m_iconst (m_newa (m_putr (m_aload (m_iconst (m_newa (m_putr (m_aload (m_iconst (m_newa (m_putr (m_aload (m_iconst (m_xgo hi)))))))))))))))))))))))
theorem mobz_2522 : xBm bz_2522 := fun dl fs i1 i2 fin hi => (m_newa (m_putr (m_aload (m_iconst (m_newa (m_putr (m_aload (m_iconst (m_newa (m_putr (m_aload (m_iconst (m_newa (m_putr (m_aload (m_iconst (m_newa (m_putr (m_aload (m_iconst (m_newa (m_putr (m_xgo hi)))))))))))))))))))))))
theorem mobz_2523 : xBm bz_2523 := fun dl fs i1 i2 fin hi => (m_aload (m_iconst (m_newa (m_putr (m_aload (m_iconst (m_newa (m_putr (m_aload (m_iconst (m_newa (m_putr (m_aload (m_iconst (m_newa (m_putr (m_aload (m_iconst (m_newa (m_putr (m_aload (m_iconst (m_xgo hi)))))))))))))))))))))))
theorem mobz_2524 : xBm bz_2524 := fun dl fs i1 i2 fin hi => (m_newa (m_putr (m_aload (m_iconst (m_newa (m_putr (m_aload (m_iconst (m_newa (m_putr (m_aload (m_iconst (m_newa (m_putr (m_aload (m_iconst (m_newa (m_putr (m_aload (m_iconst (m_newa (m_putr (m_xgo hi)))))))))))))))))))))))
theorem mobz_2525 : xBm bz_2525 := fun dl fs i1 i2 fin hi => (m_aload (m_iconst (m_newa (m_putr (m_aload (m_iconst (m_newa (m_putr (m_aload (m_iconst (m_newa (m_putr (m_aload (m_iconst (m_newa (m_putr (m_aload (m_iconst (m_newa (m_putr (m_aload (m_iconst (m_xgo hi)))))))))))))))))))))))
theorem mobz_2526 : xBm bz_2526 := fun dl fs i1 i2 fin hi => (m_newa (m_putr (m_aload (m_iconst (m_newa (m_putr (m_aload (m_iconst (m_newa (m_putr (m_aload (m_iconst (m_newa (m_putr (m_aload (m_iconst (m_newa (m_putr (m_aload (m_iconst (m_newa (m_putr (m_xgo hi)))))))))))))))))))))))
theorem mobz_2527 : xBm bz_2527 := fun dl fs i1 i2 fin hi => (m_aload (m_iconst (m_newa (m_putr (m_aload (m_iconst (m_newa (m_putr (m_aload (m_iconst (m_newa (m_putr (m_aload (m_iconst (m_newa (m_putr (m_aload (m_iconst (m_newa (m_putr (m_aload (m_iconst (m_xgo hi)))))))))))))))))))))))
theorem mobz_2528 : xBm bz_2528 := fun dl fs i1 i2 fin hi => (m_newa (m_putr (m_aload (m_iconst (m_newa (m_putr (m_aload (m_iconst (m_newa (m_putr (m_aload (m_iconst (m_newa (m_putr (m_aload (m_iconst (m_newa (m_putr (m_aload (m_iconst (m_newa (m_putr (m_xgo hi)))))))))))))))))))))))
theorem mobz_2529 : xBm bz_2529 := fun dl fs i1 i2 fin hi => (m_aload (m_iconst (m_newa (m_putr (m_aload (m_iconst (m_newa (m_putr (m_aload (m_iconst (m_newa (m_putr (m_aload (m_iconst (m_newa (m_putr (m_aload (m_iconst (m_newa (m_putr (m_aload (m_iconst (m_xgo hi)))))))))))))))))))))))
theorem mobz_2530 : xBm bz_2530 := fun dl fs i1 i2 fin hi => (m_newa (m_putr (m_aload (m_iconst (m_newa (m_putr (m_aload (m_iconst (m_newa (m_putr (m_aload (m_iconst (m_newa (m_putr (m_aload (m_iconst (m_newa (m_putr (m_aload (m_iconst (m_newa (m_putr (m_xgo hi)))))))))))))))))))))))
theorem mobz_2531 : xBm bz_2531 := fun dl fs i1 i2 fin hi => (m_aload (m_iconst (m_newa (m_putr (m_aload (m_iconst (m_newa (m_putr (m_aload (m_iconst (m_newa (m_putr (m_aload (m_iconst (m_newa (m_putr (m_aload (m_iconst (m_newa (m_putr (m_aload (m_iconst (m_xgo hi)))))))))))))))))))))))
theorem mobz_2532 : xBm bz_2532 := fun dl fs i1 i2 fin hi => (m_newa (m_putr (m_aload (m_iconst (m_newa (m_putr (m_aload (m_iconst (m_newa (m_putr (m_aload (m_iconst (m_newa (m_putr (m_aload (m_iconst (m_newa (m_putr (m_aload (m_iconst (m_newa (m_putr (m_xgo hi)))))))))))))))))))))))
theorem mobz_2533 : xBm bz_2533 := fun dl fs i1 i2 fin hi => (m_aload (m_iconst (m_newa (m_putr (m_aload (m_iconst (m_newa (m_putr (m_aload (m_iconst (m_newa (m_putr (m_aload (m_iconst (m_newa (m_putr (m_aload (m_iconst (m_newa (m_putr (m_aload (m_iconst (m_xgo hi)))))))))))))))))))))))
theorem mobz_2534 : xBm bz_2534 := fun dl fs i1 i2 fin hi => (m_newa (m_putr (m_aload (m_iconst (m_newa (m_putr (m_aload (m_iconst (m_newa (m_putr (m_aload (m_iconst (m_newa (m_putr (m_aload (m_iconst (m_newa (m_putr (m_aload (m_iconst (m_newa (m_putr (m_xgo hi)))))))))))))))))))))))
theorem mobz_2535 : xBm bz_2535 := fun dl fs i1 i2 fin hi => (m_aload (m_iconst (m_newa (m_putr (m_aload (m_iconst (m_newa (m_putr (m_aload (m_iconst (m_newa (m_putr (m_aload (m_iconst (m_newa (m_putr (m_aload (m_iconst (m_newa (m_putr (m_aload (m_iconst (m_xgo hi)))))))))))))))))))))))
theorem mobz_2536 : xBm bz_2536 := fun dl fs i1 i2 fin hi => (m_newa (m_putr (m_aload (m_iconst (m_newa (m_putr (m_aload (m_iconst (m_newa (m_putr (m_aload (m_iconst (m_newa (m_putr (m_aload (m_iconst (m_newa (m_putr (m_aload (m_iconst (m_newa (m_putr (m_xgo hi)))))))))))))))))))))))
theorem mobz_2537 : xBm bz_2537 := fun dl fs i1 i2 fin hi => (m_aload (m_iconst (m_newa (m_putr (m_aload (m_iconst (m_newa (m_putr (m_aload (m_iconst (m_newa (m_putr (m_aload (m_iconst (m_newa (m_putr (m_aload (m_iconst (m_newa (m_putr (m_aload (m_iconst (m_xgo hi)))))))))))))))))))))))
theorem mobz_2538 : xBm bz_2538 := fun dl fs i1 i2 fin hi => (m_newa (m_putr (m_aload (m_iconst (m_newa (m_putr (m_aload (m_iconst (m_newa (m_putr (m_aload (m_iconst (m_newa (m_putr (m_aload (m_iconst (m_newa (m_putr (m_aload (m_iconst (m_newa (m_putr (m_xgo hi)))))))))))))))))))))))
theorem mobz_2539 : xBm bz_2539 := fun dl fs i1 i2 fin hi => (m_aload (m_iconst (m_newa (m_putr (m_aload (m_iconst (m_newa (m_putr (m_aload (m_iconst (m_newa (m_putr (m_aload (m_iconst (m_newa (m_putr (m_aload (m_iconst (m_newa (m_putr (m_aload (m_iconst (m_xgo hi)))))))))))))))))))))))
theorem mobz_2540 : xBm bz_2540 := fun dl fs i1 i2 fin hi => (m_newa (m_putr (m_aload (m_iconst (m_newa (m_putr (m_aload (m_iconst (m_newa (m_putr (m_aload (m_iconst (m_newa (m_putr (m_aload (m_iconst (m_newa (m_putr (m_aload (m_iconst (m_newa (m_putr (m_xgo hi)))))))))))))))))))))))
theorem mobz_2541 : xBm bz_2541 := fun dl fs i1 i2 fin hi => (m_aload (m_iconst (m_newa (m_putr (m_aload (m_iconst (m_newa (m_putr (m_aload (m_iconst (m_newa (m_putr (m_aload (m_aload (m_getr (m_iconst (m_iconst (m_aload (m_getr (m_iconst (m_iconst (m_callv hi))))))))))))))))))))))
theorem mobz_no : xBm bz_no := fun _ _ _ _ _ _ => m_no
theorem mocodez_z1 (b s : Nat) : xall (fun _ a => xBm a) 1 b s codez_z1 := And.intro mobz_no mobz_no
theorem mocodez_z2 (b s : Nat) : xall (fun _ a => xBm a) 2 b s codez_z2 := And.intro (mocodez_z1 b (2 * s)) (mocodez_z1 (b + s) (2 * s))
theorem mocodez_z3 (b s : Nat) : xall (fun _ a => xBm a) 3 b s codez_z3 := And.intro (mocodez_z2 b (2 * s)) (mocodez_z2 (b + s) (2 * s))
theorem mocodez_z4 (b s : Nat) : xall (fun _ a => xBm a) 4 b s codez_z4 := And.intro (mocodez_z3 b (2 * s)) (mocodez_z3 (b + s) (2 * s))
theorem mocodez_z5 (b s : Nat) : xall (fun _ a => xBm a) 5 b s codez_z5 := And.intro (mocodez_z4 b (2 * s)) (mocodez_z4 (b + s) (2 * s))
theorem mocodez_z6 (b s : Nat) : xall (fun _ a => xBm a) 6 b s codez_z6 := And.intro (mocodez_z5 b (2 * s)) (mocodez_z5 (b + s) (2 * s))
theorem mocodez_z7 (b s : Nat) : xall (fun _ a => xBm a) 7 b s codez_z7 := And.intro (mocodez_z6 b (2 * s)) (mocodez_z6 (b + s) (2 * s))
theorem mocodez_z8 (b s : Nat) : xall (fun _ a => xBm a) 8 b s codez_z8 := And.intro (mocodez_z7 b (2 * s)) (mocodez_z7 (b + s) (2 * s))
theorem mocodez_z9 (b s : Nat) : xall (fun _ a => xBm a) 9 b s codez_z9 := And.intro (mocodez_z8 b (2 * s)) (mocodez_z8 (b + s) (2 * s))
theorem mocodez_z10 (b s : Nat) : xall (fun _ a => xBm a) 10 b s codez_z10 := And.intro (mocodez_z9 b (2 * s)) (mocodez_z9 (b + s) (2 * s))
theorem mocodez_z11 (b s : Nat) : xall (fun _ a => xBm a) 11 b s codez_z11 := And.intro (mocodez_z10 b (2 * s)) (mocodez_z10 (b + s) (2 * s))
theorem mocodez_z12 (b s : Nat) : xall (fun _ a => xBm a) 12 b s codez_z12 := And.intro (mocodez_z11 b (2 * s)) (mocodez_z11 (b + s) (2 * s))
theorem mocodez_0 (b s : Nat) : xall (fun _ a => xBm a) 1 b s codez_0 := And.intro mobz_0 mobz_2048
theorem mocodez_1 (b s : Nat) : xall (fun _ a => xBm a) 1 b s codez_1 := And.intro mobz_1024 mobz_no
theorem mocodez_2 (b s : Nat) : xall (fun _ a => xBm a) 2 b s codez_2 := And.intro (mocodez_0 b (2 * s)) (mocodez_1 (b + s) (2 * s))
theorem mocodez_3 (b s : Nat) : xall (fun _ a => xBm a) 1 b s codez_3 := And.intro mobz_512 mobz_no
theorem mocodez_4 (b s : Nat) : xall (fun _ a => xBm a) 1 b s codez_4 := And.intro mobz_1536 mobz_no
theorem mocodez_5 (b s : Nat) : xall (fun _ a => xBm a) 2 b s codez_5 := And.intro (mocodez_3 b (2 * s)) (mocodez_4 (b + s) (2 * s))
theorem mocodez_6 (b s : Nat) : xall (fun _ a => xBm a) 3 b s codez_6 := And.intro (mocodez_2 b (2 * s)) (mocodez_5 (b + s) (2 * s))
theorem mocodez_7 (b s : Nat) : xall (fun _ a => xBm a) 1 b s codez_7 := And.intro mobz_256 mobz_2304
theorem mocodez_8 (b s : Nat) : xall (fun _ a => xBm a) 1 b s codez_8 := And.intro mobz_1280 mobz_no
theorem mocodez_9 (b s : Nat) : xall (fun _ a => xBm a) 2 b s codez_9 := And.intro (mocodez_7 b (2 * s)) (mocodez_8 (b + s) (2 * s))
theorem mocodez_10 (b s : Nat) : xall (fun _ a => xBm a) 1 b s codez_10 := And.intro mobz_768 mobz_no
theorem mocodez_11 (b s : Nat) : xall (fun _ a => xBm a) 1 b s codez_11 := And.intro mobz_1792 mobz_no
theorem mocodez_12 (b s : Nat) : xall (fun _ a => xBm a) 2 b s codez_12 := And.intro (mocodez_10 b (2 * s)) (mocodez_11 (b + s) (2 * s))
theorem mocodez_13 (b s : Nat) : xall (fun _ a => xBm a) 3 b s codez_13 := And.intro (mocodez_9 b (2 * s)) (mocodez_12 (b + s) (2 * s))
theorem mocodez_14 (b s : Nat) : xall (fun _ a => xBm a) 4 b s codez_14 := And.intro (mocodez_6 b (2 * s)) (mocodez_13 (b + s) (2 * s))
theorem mocodez_15 (b s : Nat) : xall (fun _ a => xBm a) 1 b s codez_15 := And.intro mobz_128 mobz_2176
theorem mocodez_16 (b s : Nat) : xall (fun _ a => xBm a) 1 b s codez_16 := And.intro mobz_1152 mobz_no
theorem mocodez_17 (b s : Nat) : xall (fun _ a => xBm a) 2 b s codez_17 := And.intro (mocodez_15 b (2 * s)) (mocodez_16 (b + s) (2 * s))
theorem mocodez_18 (b s : Nat) : xall (fun _ a => xBm a) 1 b s codez_18 := And.intro mobz_640 mobz_no
theorem mocodez_19 (b s : Nat) : xall (fun _ a => xBm a) 1 b s codez_19 := And.intro mobz_1664 mobz_no
theorem mocodez_20 (b s : Nat) : xall (fun _ a => xBm a) 2 b s codez_20 := And.intro (mocodez_18 b (2 * s)) (mocodez_19 (b + s) (2 * s))
theorem mocodez_21 (b s : Nat) : xall (fun _ a => xBm a) 3 b s codez_21 := And.intro (mocodez_17 b (2 * s)) (mocodez_20 (b + s) (2 * s))
theorem mocodez_22 (b s : Nat) : xall (fun _ a => xBm a) 1 b s codez_22 := And.intro mobz_384 mobz_2432
theorem mocodez_23 (b s : Nat) : xall (fun _ a => xBm a) 1 b s codez_23 := And.intro mobz_1408 mobz_no
theorem mocodez_24 (b s : Nat) : xall (fun _ a => xBm a) 2 b s codez_24 := And.intro (mocodez_22 b (2 * s)) (mocodez_23 (b + s) (2 * s))
theorem mocodez_25 (b s : Nat) : xall (fun _ a => xBm a) 1 b s codez_25 := And.intro mobz_896 mobz_no
theorem mocodez_26 (b s : Nat) : xall (fun _ a => xBm a) 1 b s codez_26 := And.intro mobz_1920 mobz_no
theorem mocodez_27 (b s : Nat) : xall (fun _ a => xBm a) 2 b s codez_27 := And.intro (mocodez_25 b (2 * s)) (mocodez_26 (b + s) (2 * s))
theorem mocodez_28 (b s : Nat) : xall (fun _ a => xBm a) 3 b s codez_28 := And.intro (mocodez_24 b (2 * s)) (mocodez_27 (b + s) (2 * s))
theorem mocodez_29 (b s : Nat) : xall (fun _ a => xBm a) 4 b s codez_29 := And.intro (mocodez_21 b (2 * s)) (mocodez_28 (b + s) (2 * s))
theorem mocodez_30 (b s : Nat) : xall (fun _ a => xBm a) 5 b s codez_30 := And.intro (mocodez_14 b (2 * s)) (mocodez_29 (b + s) (2 * s))
theorem mocodez_31 (b s : Nat) : xall (fun _ a => xBm a) 1 b s codez_31 := And.intro mobz_64 mobz_2112
theorem mocodez_32 (b s : Nat) : xall (fun _ a => xBm a) 1 b s codez_32 := And.intro mobz_1088 mobz_no
theorem mocodez_33 (b s : Nat) : xall (fun _ a => xBm a) 2 b s codez_33 := And.intro (mocodez_31 b (2 * s)) (mocodez_32 (b + s) (2 * s))
theorem mocodez_34 (b s : Nat) : xall (fun _ a => xBm a) 1 b s codez_34 := And.intro mobz_576 mobz_no
theorem mocodez_35 (b s : Nat) : xall (fun _ a => xBm a) 1 b s codez_35 := And.intro mobz_1600 mobz_no
theorem mocodez_36 (b s : Nat) : xall (fun _ a => xBm a) 2 b s codez_36 := And.intro (mocodez_34 b (2 * s)) (mocodez_35 (b + s) (2 * s))
theorem mocodez_37 (b s : Nat) : xall (fun _ a => xBm a) 3 b s codez_37 := And.intro (mocodez_33 b (2 * s)) (mocodez_36 (b + s) (2 * s))
theorem mocodez_38 (b s : Nat) : xall (fun _ a => xBm a) 1 b s codez_38 := And.intro mobz_320 mobz_2368
theorem mocodez_39 (b s : Nat) : xall (fun _ a => xBm a) 1 b s codez_39 := And.intro mobz_1344 mobz_no
theorem mocodez_40 (b s : Nat) : xall (fun _ a => xBm a) 2 b s codez_40 := And.intro (mocodez_38 b (2 * s)) (mocodez_39 (b + s) (2 * s))
theorem mocodez_41 (b s : Nat) : xall (fun _ a => xBm a) 1 b s codez_41 := And.intro mobz_832 mobz_no
theorem mocodez_42 (b s : Nat) : xall (fun _ a => xBm a) 1 b s codez_42 := And.intro mobz_1856 mobz_no
theorem mocodez_43 (b s : Nat) : xall (fun _ a => xBm a) 2 b s codez_43 := And.intro (mocodez_41 b (2 * s)) (mocodez_42 (b + s) (2 * s))
theorem mocodez_44 (b s : Nat) : xall (fun _ a => xBm a) 3 b s codez_44 := And.intro (mocodez_40 b (2 * s)) (mocodez_43 (b + s) (2 * s))
theorem mocodez_45 (b s : Nat) : xall (fun _ a => xBm a) 4 b s codez_45 := And.intro (mocodez_37 b (2 * s)) (mocodez_44 (b + s) (2 * s))
theorem mocodez_46 (b s : Nat) : xall (fun _ a => xBm a) 1 b s codez_46 := And.intro mobz_192 mobz_2240
theorem mocodez_47 (b s : Nat) : xall (fun _ a => xBm a) 1 b s codez_47 := And.intro mobz_1216 mobz_no
theorem mocodez_48 (b s : Nat) : xall (fun _ a => xBm a) 2 b s codez_48 := And.intro (mocodez_46 b (2 * s)) (mocodez_47 (b + s) (2 * s))
theorem mocodez_49 (b s : Nat) : xall (fun _ a => xBm a) 1 b s codez_49 := And.intro mobz_704 mobz_no
theorem mocodez_50 (b s : Nat) : xall (fun _ a => xBm a) 1 b s codez_50 := And.intro mobz_1728 mobz_no
theorem mocodez_51 (b s : Nat) : xall (fun _ a => xBm a) 2 b s codez_51 := And.intro (mocodez_49 b (2 * s)) (mocodez_50 (b + s) (2 * s))
theorem mocodez_52 (b s : Nat) : xall (fun _ a => xBm a) 3 b s codez_52 := And.intro (mocodez_48 b (2 * s)) (mocodez_51 (b + s) (2 * s))
theorem mocodez_53 (b s : Nat) : xall (fun _ a => xBm a) 1 b s codez_53 := And.intro mobz_448 mobz_2496
theorem mocodez_54 (b s : Nat) : xall (fun _ a => xBm a) 1 b s codez_54 := And.intro mobz_1472 mobz_no
theorem mocodez_55 (b s : Nat) : xall (fun _ a => xBm a) 2 b s codez_55 := And.intro (mocodez_53 b (2 * s)) (mocodez_54 (b + s) (2 * s))
theorem mocodez_56 (b s : Nat) : xall (fun _ a => xBm a) 1 b s codez_56 := And.intro mobz_960 mobz_no
theorem mocodez_57 (b s : Nat) : xall (fun _ a => xBm a) 1 b s codez_57 := And.intro mobz_1984 mobz_no
theorem mocodez_58 (b s : Nat) : xall (fun _ a => xBm a) 2 b s codez_58 := And.intro (mocodez_56 b (2 * s)) (mocodez_57 (b + s) (2 * s))
theorem mocodez_59 (b s : Nat) : xall (fun _ a => xBm a) 3 b s codez_59 := And.intro (mocodez_55 b (2 * s)) (mocodez_58 (b + s) (2 * s))
theorem mocodez_60 (b s : Nat) : xall (fun _ a => xBm a) 4 b s codez_60 := And.intro (mocodez_52 b (2 * s)) (mocodez_59 (b + s) (2 * s))
theorem mocodez_61 (b s : Nat) : xall (fun _ a => xBm a) 5 b s codez_61 := And.intro (mocodez_45 b (2 * s)) (mocodez_60 (b + s) (2 * s))
theorem mocodez_62 (b s : Nat) : xall (fun _ a => xBm a) 6 b s codez_62 := And.intro (mocodez_30 b (2 * s)) (mocodez_61 (b + s) (2 * s))
theorem mocodez_63 (b s : Nat) : xall (fun _ a => xBm a) 1 b s codez_63 := And.intro mobz_32 mobz_2080
theorem mocodez_64 (b s : Nat) : xall (fun _ a => xBm a) 1 b s codez_64 := And.intro mobz_1056 mobz_no
theorem mocodez_65 (b s : Nat) : xall (fun _ a => xBm a) 2 b s codez_65 := And.intro (mocodez_63 b (2 * s)) (mocodez_64 (b + s) (2 * s))
theorem mocodez_66 (b s : Nat) : xall (fun _ a => xBm a) 1 b s codez_66 := And.intro mobz_544 mobz_no
theorem mocodez_67 (b s : Nat) : xall (fun _ a => xBm a) 1 b s codez_67 := And.intro mobz_1568 mobz_no
theorem mocodez_68 (b s : Nat) : xall (fun _ a => xBm a) 2 b s codez_68 := And.intro (mocodez_66 b (2 * s)) (mocodez_67 (b + s) (2 * s))
theorem mocodez_69 (b s : Nat) : xall (fun _ a => xBm a) 3 b s codez_69 := And.intro (mocodez_65 b (2 * s)) (mocodez_68 (b + s) (2 * s))
theorem mocodez_70 (b s : Nat) : xall (fun _ a => xBm a) 1 b s codez_70 := And.intro mobz_288 mobz_2336
theorem mocodez_71 (b s : Nat) : xall (fun _ a => xBm a) 1 b s codez_71 := And.intro mobz_1312 mobz_no
theorem mocodez_72 (b s : Nat) : xall (fun _ a => xBm a) 2 b s codez_72 := And.intro (mocodez_70 b (2 * s)) (mocodez_71 (b + s) (2 * s))
theorem mocodez_73 (b s : Nat) : xall (fun _ a => xBm a) 1 b s codez_73 := And.intro mobz_800 mobz_no
theorem mocodez_74 (b s : Nat) : xall (fun _ a => xBm a) 1 b s codez_74 := And.intro mobz_1824 mobz_no
theorem mocodez_75 (b s : Nat) : xall (fun _ a => xBm a) 2 b s codez_75 := And.intro (mocodez_73 b (2 * s)) (mocodez_74 (b + s) (2 * s))
theorem mocodez_76 (b s : Nat) : xall (fun _ a => xBm a) 3 b s codez_76 := And.intro (mocodez_72 b (2 * s)) (mocodez_75 (b + s) (2 * s))
theorem mocodez_77 (b s : Nat) : xall (fun _ a => xBm a) 4 b s codez_77 := And.intro (mocodez_69 b (2 * s)) (mocodez_76 (b + s) (2 * s))
theorem mocodez_78 (b s : Nat) : xall (fun _ a => xBm a) 1 b s codez_78 := And.intro mobz_160 mobz_2208
theorem mocodez_79 (b s : Nat) : xall (fun _ a => xBm a) 1 b s codez_79 := And.intro mobz_1184 mobz_no
theorem mocodez_80 (b s : Nat) : xall (fun _ a => xBm a) 2 b s codez_80 := And.intro (mocodez_78 b (2 * s)) (mocodez_79 (b + s) (2 * s))
theorem mocodez_81 (b s : Nat) : xall (fun _ a => xBm a) 1 b s codez_81 := And.intro mobz_672 mobz_no
theorem mocodez_82 (b s : Nat) : xall (fun _ a => xBm a) 1 b s codez_82 := And.intro mobz_1696 mobz_no
theorem mocodez_83 (b s : Nat) : xall (fun _ a => xBm a) 2 b s codez_83 := And.intro (mocodez_81 b (2 * s)) (mocodez_82 (b + s) (2 * s))
theorem mocodez_84 (b s : Nat) : xall (fun _ a => xBm a) 3 b s codez_84 := And.intro (mocodez_80 b (2 * s)) (mocodez_83 (b + s) (2 * s))
theorem mocodez_85 (b s : Nat) : xall (fun _ a => xBm a) 1 b s codez_85 := And.intro mobz_416 mobz_2464
theorem mocodez_86 (b s : Nat) : xall (fun _ a => xBm a) 1 b s codez_86 := And.intro mobz_1440 mobz_no
theorem mocodez_87 (b s : Nat) : xall (fun _ a => xBm a) 2 b s codez_87 := And.intro (mocodez_85 b (2 * s)) (mocodez_86 (b + s) (2 * s))
theorem mocodez_88 (b s : Nat) : xall (fun _ a => xBm a) 1 b s codez_88 := And.intro mobz_928 mobz_no
theorem mocodez_89 (b s : Nat) : xall (fun _ a => xBm a) 1 b s codez_89 := And.intro mobz_1952 mobz_no
theorem mocodez_90 (b s : Nat) : xall (fun _ a => xBm a) 2 b s codez_90 := And.intro (mocodez_88 b (2 * s)) (mocodez_89 (b + s) (2 * s))
theorem mocodez_91 (b s : Nat) : xall (fun _ a => xBm a) 3 b s codez_91 := And.intro (mocodez_87 b (2 * s)) (mocodez_90 (b + s) (2 * s))
theorem mocodez_92 (b s : Nat) : xall (fun _ a => xBm a) 4 b s codez_92 := And.intro (mocodez_84 b (2 * s)) (mocodez_91 (b + s) (2 * s))
theorem mocodez_93 (b s : Nat) : xall (fun _ a => xBm a) 5 b s codez_93 := And.intro (mocodez_77 b (2 * s)) (mocodez_92 (b + s) (2 * s))
theorem mocodez_94 (b s : Nat) : xall (fun _ a => xBm a) 1 b s codez_94 := And.intro mobz_96 mobz_2144
theorem mocodez_95 (b s : Nat) : xall (fun _ a => xBm a) 1 b s codez_95 := And.intro mobz_1120 mobz_no
theorem mocodez_96 (b s : Nat) : xall (fun _ a => xBm a) 2 b s codez_96 := And.intro (mocodez_94 b (2 * s)) (mocodez_95 (b + s) (2 * s))
theorem mocodez_97 (b s : Nat) : xall (fun _ a => xBm a) 1 b s codez_97 := And.intro mobz_608 mobz_no
theorem mocodez_98 (b s : Nat) : xall (fun _ a => xBm a) 1 b s codez_98 := And.intro mobz_1632 mobz_no
theorem mocodez_99 (b s : Nat) : xall (fun _ a => xBm a) 2 b s codez_99 := And.intro (mocodez_97 b (2 * s)) (mocodez_98 (b + s) (2 * s))
theorem mocodez_100 (b s : Nat) : xall (fun _ a => xBm a) 3 b s codez_100 := And.intro (mocodez_96 b (2 * s)) (mocodez_99 (b + s) (2 * s))
theorem mocodez_101 (b s : Nat) : xall (fun _ a => xBm a) 1 b s codez_101 := And.intro mobz_352 mobz_2400
theorem mocodez_102 (b s : Nat) : xall (fun _ a => xBm a) 1 b s codez_102 := And.intro mobz_1376 mobz_no
theorem mocodez_103 (b s : Nat) : xall (fun _ a => xBm a) 2 b s codez_103 := And.intro (mocodez_101 b (2 * s)) (mocodez_102 (b + s) (2 * s))
theorem mocodez_104 (b s : Nat) : xall (fun _ a => xBm a) 1 b s codez_104 := And.intro mobz_864 mobz_no
theorem mocodez_105 (b s : Nat) : xall (fun _ a => xBm a) 1 b s codez_105 := And.intro mobz_1888 mobz_no
theorem mocodez_106 (b s : Nat) : xall (fun _ a => xBm a) 2 b s codez_106 := And.intro (mocodez_104 b (2 * s)) (mocodez_105 (b + s) (2 * s))
theorem mocodez_107 (b s : Nat) : xall (fun _ a => xBm a) 3 b s codez_107 := And.intro (mocodez_103 b (2 * s)) (mocodez_106 (b + s) (2 * s))
theorem mocodez_108 (b s : Nat) : xall (fun _ a => xBm a) 4 b s codez_108 := And.intro (mocodez_100 b (2 * s)) (mocodez_107 (b + s) (2 * s))
theorem mocodez_109 (b s : Nat) : xall (fun _ a => xBm a) 1 b s codez_109 := And.intro mobz_224 mobz_2272
theorem mocodez_110 (b s : Nat) : xall (fun _ a => xBm a) 1 b s codez_110 := And.intro mobz_1248 mobz_no
theorem mocodez_111 (b s : Nat) : xall (fun _ a => xBm a) 2 b s codez_111 := And.intro (mocodez_109 b (2 * s)) (mocodez_110 (b + s) (2 * s))
theorem mocodez_112 (b s : Nat) : xall (fun _ a => xBm a) 1 b s codez_112 := And.intro mobz_736 mobz_no
theorem mocodez_113 (b s : Nat) : xall (fun _ a => xBm a) 1 b s codez_113 := And.intro mobz_1760 mobz_no
theorem mocodez_114 (b s : Nat) : xall (fun _ a => xBm a) 2 b s codez_114 := And.intro (mocodez_112 b (2 * s)) (mocodez_113 (b + s) (2 * s))
theorem mocodez_115 (b s : Nat) : xall (fun _ a => xBm a) 3 b s codez_115 := And.intro (mocodez_111 b (2 * s)) (mocodez_114 (b + s) (2 * s))
theorem mocodez_116 (b s : Nat) : xall (fun _ a => xBm a) 1 b s codez_116 := And.intro mobz_480 mobz_2528
theorem mocodez_117 (b s : Nat) : xall (fun _ a => xBm a) 1 b s codez_117 := And.intro mobz_1504 mobz_no
theorem mocodez_118 (b s : Nat) : xall (fun _ a => xBm a) 2 b s codez_118 := And.intro (mocodez_116 b (2 * s)) (mocodez_117 (b + s) (2 * s))
theorem mocodez_119 (b s : Nat) : xall (fun _ a => xBm a) 1 b s codez_119 := And.intro mobz_992 mobz_no
theorem mocodez_120 (b s : Nat) : xall (fun _ a => xBm a) 1 b s codez_120 := And.intro mobz_2016 mobz_no
theorem mocodez_121 (b s : Nat) : xall (fun _ a => xBm a) 2 b s codez_121 := And.intro (mocodez_119 b (2 * s)) (mocodez_120 (b + s) (2 * s))
theorem mocodez_122 (b s : Nat) : xall (fun _ a => xBm a) 3 b s codez_122 := And.intro (mocodez_118 b (2 * s)) (mocodez_121 (b + s) (2 * s))
theorem mocodez_123 (b s : Nat) : xall (fun _ a => xBm a) 4 b s codez_123 := And.intro (mocodez_115 b (2 * s)) (mocodez_122 (b + s) (2 * s))
theorem mocodez_124 (b s : Nat) : xall (fun _ a => xBm a) 5 b s codez_124 := And.intro (mocodez_108 b (2 * s)) (mocodez_123 (b + s) (2 * s))
theorem mocodez_125 (b s : Nat) : xall (fun _ a => xBm a) 6 b s codez_125 := And.intro (mocodez_93 b (2 * s)) (mocodez_124 (b + s) (2 * s))
theorem mocodez_126 (b s : Nat) : xall (fun _ a => xBm a) 7 b s codez_126 := And.intro (mocodez_62 b (2 * s)) (mocodez_125 (b + s) (2 * s))
theorem mocodez_127 (b s : Nat) : xall (fun _ a => xBm a) 1 b s codez_127 := And.intro mobz_16 mobz_2064
theorem mocodez_128 (b s : Nat) : xall (fun _ a => xBm a) 1 b s codez_128 := And.intro mobz_1040 mobz_no
theorem mocodez_129 (b s : Nat) : xall (fun _ a => xBm a) 2 b s codez_129 := And.intro (mocodez_127 b (2 * s)) (mocodez_128 (b + s) (2 * s))
theorem mocodez_130 (b s : Nat) : xall (fun _ a => xBm a) 1 b s codez_130 := And.intro mobz_528 mobz_no
theorem mocodez_131 (b s : Nat) : xall (fun _ a => xBm a) 1 b s codez_131 := And.intro mobz_1552 mobz_no
theorem mocodez_132 (b s : Nat) : xall (fun _ a => xBm a) 2 b s codez_132 := And.intro (mocodez_130 b (2 * s)) (mocodez_131 (b + s) (2 * s))
theorem mocodez_133 (b s : Nat) : xall (fun _ a => xBm a) 3 b s codez_133 := And.intro (mocodez_129 b (2 * s)) (mocodez_132 (b + s) (2 * s))
theorem mocodez_134 (b s : Nat) : xall (fun _ a => xBm a) 1 b s codez_134 := And.intro mobz_272 mobz_2320
theorem mocodez_135 (b s : Nat) : xall (fun _ a => xBm a) 1 b s codez_135 := And.intro mobz_1296 mobz_no
theorem mocodez_136 (b s : Nat) : xall (fun _ a => xBm a) 2 b s codez_136 := And.intro (mocodez_134 b (2 * s)) (mocodez_135 (b + s) (2 * s))
theorem mocodez_137 (b s : Nat) : xall (fun _ a => xBm a) 1 b s codez_137 := And.intro mobz_784 mobz_no
theorem mocodez_138 (b s : Nat) : xall (fun _ a => xBm a) 1 b s codez_138 := And.intro mobz_1808 mobz_no
theorem mocodez_139 (b s : Nat) : xall (fun _ a => xBm a) 2 b s codez_139 := And.intro (mocodez_137 b (2 * s)) (mocodez_138 (b + s) (2 * s))
theorem mocodez_140 (b s : Nat) : xall (fun _ a => xBm a) 3 b s codez_140 := And.intro (mocodez_136 b (2 * s)) (mocodez_139 (b + s) (2 * s))
theorem mocodez_141 (b s : Nat) : xall (fun _ a => xBm a) 4 b s codez_141 := And.intro (mocodez_133 b (2 * s)) (mocodez_140 (b + s) (2 * s))
theorem mocodez_142 (b s : Nat) : xall (fun _ a => xBm a) 1 b s codez_142 := And.intro mobz_144 mobz_2192
theorem mocodez_143 (b s : Nat) : xall (fun _ a => xBm a) 1 b s codez_143 := And.intro mobz_1168 mobz_no
theorem mocodez_144 (b s : Nat) : xall (fun _ a => xBm a) 2 b s codez_144 := And.intro (mocodez_142 b (2 * s)) (mocodez_143 (b + s) (2 * s))
theorem mocodez_145 (b s : Nat) : xall (fun _ a => xBm a) 1 b s codez_145 := And.intro mobz_656 mobz_no
theorem mocodez_146 (b s : Nat) : xall (fun _ a => xBm a) 1 b s codez_146 := And.intro mobz_1680 mobz_no
theorem mocodez_147 (b s : Nat) : xall (fun _ a => xBm a) 2 b s codez_147 := And.intro (mocodez_145 b (2 * s)) (mocodez_146 (b + s) (2 * s))
theorem mocodez_148 (b s : Nat) : xall (fun _ a => xBm a) 3 b s codez_148 := And.intro (mocodez_144 b (2 * s)) (mocodez_147 (b + s) (2 * s))
theorem mocodez_149 (b s : Nat) : xall (fun _ a => xBm a) 1 b s codez_149 := And.intro mobz_400 mobz_2448
theorem mocodez_150 (b s : Nat) : xall (fun _ a => xBm a) 1 b s codez_150 := And.intro mobz_1424 mobz_no
theorem mocodez_151 (b s : Nat) : xall (fun _ a => xBm a) 2 b s codez_151 := And.intro (mocodez_149 b (2 * s)) (mocodez_150 (b + s) (2 * s))
theorem mocodez_152 (b s : Nat) : xall (fun _ a => xBm a) 1 b s codez_152 := And.intro mobz_912 mobz_no
theorem mocodez_153 (b s : Nat) : xall (fun _ a => xBm a) 1 b s codez_153 := And.intro mobz_1936 mobz_no
theorem mocodez_154 (b s : Nat) : xall (fun _ a => xBm a) 2 b s codez_154 := And.intro (mocodez_152 b (2 * s)) (mocodez_153 (b + s) (2 * s))
theorem mocodez_155 (b s : Nat) : xall (fun _ a => xBm a) 3 b s codez_155 := And.intro (mocodez_151 b (2 * s)) (mocodez_154 (b + s) (2 * s))
theorem mocodez_156 (b s : Nat) : xall (fun _ a => xBm a) 4 b s codez_156 := And.intro (mocodez_148 b (2 * s)) (mocodez_155 (b + s) (2 * s))
theorem mocodez_157 (b s : Nat) : xall (fun _ a => xBm a) 5 b s codez_157 := And.intro (mocodez_141 b (2 * s)) (mocodez_156 (b + s) (2 * s))
theorem mocodez_158 (b s : Nat) : xall (fun _ a => xBm a) 1 b s codez_158 := And.intro mobz_80 mobz_2128
theorem mocodez_159 (b s : Nat) : xall (fun _ a => xBm a) 1 b s codez_159 := And.intro mobz_1104 mobz_no
theorem mocodez_160 (b s : Nat) : xall (fun _ a => xBm a) 2 b s codez_160 := And.intro (mocodez_158 b (2 * s)) (mocodez_159 (b + s) (2 * s))
theorem mocodez_161 (b s : Nat) : xall (fun _ a => xBm a) 1 b s codez_161 := And.intro mobz_592 mobz_no
theorem mocodez_162 (b s : Nat) : xall (fun _ a => xBm a) 1 b s codez_162 := And.intro mobz_1616 mobz_no
theorem mocodez_163 (b s : Nat) : xall (fun _ a => xBm a) 2 b s codez_163 := And.intro (mocodez_161 b (2 * s)) (mocodez_162 (b + s) (2 * s))
theorem mocodez_164 (b s : Nat) : xall (fun _ a => xBm a) 3 b s codez_164 := And.intro (mocodez_160 b (2 * s)) (mocodez_163 (b + s) (2 * s))
theorem mocodez_165 (b s : Nat) : xall (fun _ a => xBm a) 1 b s codez_165 := And.intro mobz_336 mobz_2384
theorem mocodez_166 (b s : Nat) : xall (fun _ a => xBm a) 1 b s codez_166 := And.intro mobz_1360 mobz_no
theorem mocodez_167 (b s : Nat) : xall (fun _ a => xBm a) 2 b s codez_167 := And.intro (mocodez_165 b (2 * s)) (mocodez_166 (b + s) (2 * s))
theorem mocodez_168 (b s : Nat) : xall (fun _ a => xBm a) 1 b s codez_168 := And.intro mobz_848 mobz_no
theorem mocodez_169 (b s : Nat) : xall (fun _ a => xBm a) 1 b s codez_169 := And.intro mobz_1872 mobz_no
theorem mocodez_170 (b s : Nat) : xall (fun _ a => xBm a) 2 b s codez_170 := And.intro (mocodez_168 b (2 * s)) (mocodez_169 (b + s) (2 * s))
theorem mocodez_171 (b s : Nat) : xall (fun _ a => xBm a) 3 b s codez_171 := And.intro (mocodez_167 b (2 * s)) (mocodez_170 (b + s) (2 * s))
theorem mocodez_172 (b s : Nat) : xall (fun _ a => xBm a) 4 b s codez_172 := And.intro (mocodez_164 b (2 * s)) (mocodez_171 (b + s) (2 * s))
theorem mocodez_173 (b s : Nat) : xall (fun _ a => xBm a) 1 b s codez_173 := And.intro mobz_208 mobz_2256
theorem mocodez_174 (b s : Nat) : xall (fun _ a => xBm a) 1 b s codez_174 := And.intro mobz_1232 mobz_no
theorem mocodez_175 (b s : Nat) : xall (fun _ a => xBm a) 2 b s codez_175 := And.intro (mocodez_173 b (2 * s)) (mocodez_174 (b + s) (2 * s))
theorem mocodez_176 (b s : Nat) : xall (fun _ a => xBm a) 1 b s codez_176 := And.intro mobz_720 mobz_no
theorem mocodez_177 (b s : Nat) : xall (fun _ a => xBm a) 1 b s codez_177 := And.intro mobz_1744 mobz_no
theorem mocodez_178 (b s : Nat) : xall (fun _ a => xBm a) 2 b s codez_178 := And.intro (mocodez_176 b (2 * s)) (mocodez_177 (b + s) (2 * s))
theorem mocodez_179 (b s : Nat) : xall (fun _ a => xBm a) 3 b s codez_179 := And.intro (mocodez_175 b (2 * s)) (mocodez_178 (b + s) (2 * s))
theorem mocodez_180 (b s : Nat) : xall (fun _ a => xBm a) 1 b s codez_180 := And.intro mobz_464 mobz_2512
theorem mocodez_181 (b s : Nat) : xall (fun _ a => xBm a) 1 b s codez_181 := And.intro mobz_1488 mobz_no
theorem mocodez_182 (b s : Nat) : xall (fun _ a => xBm a) 2 b s codez_182 := And.intro (mocodez_180 b (2 * s)) (mocodez_181 (b + s) (2 * s))
theorem mocodez_183 (b s : Nat) : xall (fun _ a => xBm a) 1 b s codez_183 := And.intro mobz_976 mobz_no
theorem mocodez_184 (b s : Nat) : xall (fun _ a => xBm a) 1 b s codez_184 := And.intro mobz_2000 mobz_no
theorem mocodez_185 (b s : Nat) : xall (fun _ a => xBm a) 2 b s codez_185 := And.intro (mocodez_183 b (2 * s)) (mocodez_184 (b + s) (2 * s))
theorem mocodez_186 (b s : Nat) : xall (fun _ a => xBm a) 3 b s codez_186 := And.intro (mocodez_182 b (2 * s)) (mocodez_185 (b + s) (2 * s))
theorem mocodez_187 (b s : Nat) : xall (fun _ a => xBm a) 4 b s codez_187 := And.intro (mocodez_179 b (2 * s)) (mocodez_186 (b + s) (2 * s))
theorem mocodez_188 (b s : Nat) : xall (fun _ a => xBm a) 5 b s codez_188 := And.intro (mocodez_172 b (2 * s)) (mocodez_187 (b + s) (2 * s))
theorem mocodez_189 (b s : Nat) : xall (fun _ a => xBm a) 6 b s codez_189 := And.intro (mocodez_157 b (2 * s)) (mocodez_188 (b + s) (2 * s))
theorem mocodez_190 (b s : Nat) : xall (fun _ a => xBm a) 1 b s codez_190 := And.intro mobz_48 mobz_2096
theorem mocodez_191 (b s : Nat) : xall (fun _ a => xBm a) 1 b s codez_191 := And.intro mobz_1072 mobz_no
theorem mocodez_192 (b s : Nat) : xall (fun _ a => xBm a) 2 b s codez_192 := And.intro (mocodez_190 b (2 * s)) (mocodez_191 (b + s) (2 * s))
theorem mocodez_193 (b s : Nat) : xall (fun _ a => xBm a) 1 b s codez_193 := And.intro mobz_560 mobz_no
theorem mocodez_194 (b s : Nat) : xall (fun _ a => xBm a) 1 b s codez_194 := And.intro mobz_1584 mobz_no
theorem mocodez_195 (b s : Nat) : xall (fun _ a => xBm a) 2 b s codez_195 := And.intro (mocodez_193 b (2 * s)) (mocodez_194 (b + s) (2 * s))
theorem mocodez_196 (b s : Nat) : xall (fun _ a => xBm a) 3 b s codez_196 := And.intro (mocodez_192 b (2 * s)) (mocodez_195 (b + s) (2 * s))
theorem mocodez_197 (b s : Nat) : xall (fun _ a => xBm a) 1 b s codez_197 := And.intro mobz_304 mobz_2352
theorem mocodez_198 (b s : Nat) : xall (fun _ a => xBm a) 1 b s codez_198 := And.intro mobz_1328 mobz_no
theorem mocodez_199 (b s : Nat) : xall (fun _ a => xBm a) 2 b s codez_199 := And.intro (mocodez_197 b (2 * s)) (mocodez_198 (b + s) (2 * s))
theorem mocodez_200 (b s : Nat) : xall (fun _ a => xBm a) 1 b s codez_200 := And.intro mobz_816 mobz_no
theorem mocodez_201 (b s : Nat) : xall (fun _ a => xBm a) 1 b s codez_201 := And.intro mobz_1840 mobz_no
theorem mocodez_202 (b s : Nat) : xall (fun _ a => xBm a) 2 b s codez_202 := And.intro (mocodez_200 b (2 * s)) (mocodez_201 (b + s) (2 * s))
theorem mocodez_203 (b s : Nat) : xall (fun _ a => xBm a) 3 b s codez_203 := And.intro (mocodez_199 b (2 * s)) (mocodez_202 (b + s) (2 * s))
theorem mocodez_204 (b s : Nat) : xall (fun _ a => xBm a) 4 b s codez_204 := And.intro (mocodez_196 b (2 * s)) (mocodez_203 (b + s) (2 * s))
theorem mocodez_205 (b s : Nat) : xall (fun _ a => xBm a) 1 b s codez_205 := And.intro mobz_176 mobz_2224
theorem mocodez_206 (b s : Nat) : xall (fun _ a => xBm a) 1 b s codez_206 := And.intro mobz_1200 mobz_no
theorem mocodez_207 (b s : Nat) : xall (fun _ a => xBm a) 2 b s codez_207 := And.intro (mocodez_205 b (2 * s)) (mocodez_206 (b + s) (2 * s))
theorem mocodez_208 (b s : Nat) : xall (fun _ a => xBm a) 1 b s codez_208 := And.intro mobz_688 mobz_no
theorem mocodez_209 (b s : Nat) : xall (fun _ a => xBm a) 1 b s codez_209 := And.intro mobz_1712 mobz_no
theorem mocodez_210 (b s : Nat) : xall (fun _ a => xBm a) 2 b s codez_210 := And.intro (mocodez_208 b (2 * s)) (mocodez_209 (b + s) (2 * s))
theorem mocodez_211 (b s : Nat) : xall (fun _ a => xBm a) 3 b s codez_211 := And.intro (mocodez_207 b (2 * s)) (mocodez_210 (b + s) (2 * s))
theorem mocodez_212 (b s : Nat) : xall (fun _ a => xBm a) 1 b s codez_212 := And.intro mobz_432 mobz_2480
theorem mocodez_213 (b s : Nat) : xall (fun _ a => xBm a) 1 b s codez_213 := And.intro mobz_1456 mobz_no
theorem mocodez_214 (b s : Nat) : xall (fun _ a => xBm a) 2 b s codez_214 := And.intro (mocodez_212 b (2 * s)) (mocodez_213 (b + s) (2 * s))
theorem mocodez_215 (b s : Nat) : xall (fun _ a => xBm a) 1 b s codez_215 := And.intro mobz_944 mobz_no
theorem mocodez_216 (b s : Nat) : xall (fun _ a => xBm a) 1 b s codez_216 := And.intro mobz_1968 mobz_no
theorem mocodez_217 (b s : Nat) : xall (fun _ a => xBm a) 2 b s codez_217 := And.intro (mocodez_215 b (2 * s)) (mocodez_216 (b + s) (2 * s))
theorem mocodez_218 (b s : Nat) : xall (fun _ a => xBm a) 3 b s codez_218 := And.intro (mocodez_214 b (2 * s)) (mocodez_217 (b + s) (2 * s))
theorem mocodez_219 (b s : Nat) : xall (fun _ a => xBm a) 4 b s codez_219 := And.intro (mocodez_211 b (2 * s)) (mocodez_218 (b + s) (2 * s))
theorem mocodez_220 (b s : Nat) : xall (fun _ a => xBm a) 5 b s codez_220 := And.intro (mocodez_204 b (2 * s)) (mocodez_219 (b + s) (2 * s))
theorem mocodez_221 (b s : Nat) : xall (fun _ a => xBm a) 1 b s codez_221 := And.intro mobz_112 mobz_2160
theorem mocodez_222 (b s : Nat) : xall (fun _ a => xBm a) 1 b s codez_222 := And.intro mobz_1136 mobz_no
theorem mocodez_223 (b s : Nat) : xall (fun _ a => xBm a) 2 b s codez_223 := And.intro (mocodez_221 b (2 * s)) (mocodez_222 (b + s) (2 * s))
theorem mocodez_224 (b s : Nat) : xall (fun _ a => xBm a) 1 b s codez_224 := And.intro mobz_624 mobz_no
theorem mocodez_225 (b s : Nat) : xall (fun _ a => xBm a) 1 b s codez_225 := And.intro mobz_1648 mobz_no
theorem mocodez_226 (b s : Nat) : xall (fun _ a => xBm a) 2 b s codez_226 := And.intro (mocodez_224 b (2 * s)) (mocodez_225 (b + s) (2 * s))
theorem mocodez_227 (b s : Nat) : xall (fun _ a => xBm a) 3 b s codez_227 := And.intro (mocodez_223 b (2 * s)) (mocodez_226 (b + s) (2 * s))
theorem mocodez_228 (b s : Nat) : xall (fun _ a => xBm a) 1 b s codez_228 := And.intro mobz_368 mobz_2416
theorem mocodez_229 (b s : Nat) : xall (fun _ a => xBm a) 1 b s codez_229 := And.intro mobz_1392 mobz_no
theorem mocodez_230 (b s : Nat) : xall (fun _ a => xBm a) 2 b s codez_230 := And.intro (mocodez_228 b (2 * s)) (mocodez_229 (b + s) (2 * s))
theorem mocodez_231 (b s : Nat) : xall (fun _ a => xBm a) 1 b s codez_231 := And.intro mobz_880 mobz_no
theorem mocodez_232 (b s : Nat) : xall (fun _ a => xBm a) 1 b s codez_232 := And.intro mobz_1904 mobz_no
theorem mocodez_233 (b s : Nat) : xall (fun _ a => xBm a) 2 b s codez_233 := And.intro (mocodez_231 b (2 * s)) (mocodez_232 (b + s) (2 * s))
theorem mocodez_234 (b s : Nat) : xall (fun _ a => xBm a) 3 b s codez_234 := And.intro (mocodez_230 b (2 * s)) (mocodez_233 (b + s) (2 * s))
theorem mocodez_235 (b s : Nat) : xall (fun _ a => xBm a) 4 b s codez_235 := And.intro (mocodez_227 b (2 * s)) (mocodez_234 (b + s) (2 * s))
theorem mocodez_236 (b s : Nat) : xall (fun _ a => xBm a) 1 b s codez_236 := And.intro mobz_240 mobz_2288
theorem mocodez_237 (b s : Nat) : xall (fun _ a => xBm a) 1 b s codez_237 := And.intro mobz_1264 mobz_no
theorem mocodez_238 (b s : Nat) : xall (fun _ a => xBm a) 2 b s codez_238 := And.intro (mocodez_236 b (2 * s)) (mocodez_237 (b + s) (2 * s))
theorem mocodez_239 (b s : Nat) : xall (fun _ a => xBm a) 1 b s codez_239 := And.intro mobz_752 mobz_no
theorem mocodez_240 (b s : Nat) : xall (fun _ a => xBm a) 1 b s codez_240 := And.intro mobz_1776 mobz_no
theorem mocodez_241 (b s : Nat) : xall (fun _ a => xBm a) 2 b s codez_241 := And.intro (mocodez_239 b (2 * s)) (mocodez_240 (b + s) (2 * s))
theorem mocodez_242 (b s : Nat) : xall (fun _ a => xBm a) 3 b s codez_242 := And.intro (mocodez_238 b (2 * s)) (mocodez_241 (b + s) (2 * s))
theorem mocodez_243 (b s : Nat) : xall (fun _ a => xBm a) 1 b s codez_243 := And.intro mobz_496 mobz_no
theorem mocodez_244 (b s : Nat) : xall (fun _ a => xBm a) 1 b s codez_244 := And.intro mobz_1520 mobz_no
theorem mocodez_245 (b s : Nat) : xall (fun _ a => xBm a) 2 b s codez_245 := And.intro (mocodez_243 b (2 * s)) (mocodez_244 (b + s) (2 * s))
theorem mocodez_246 (b s : Nat) : xall (fun _ a => xBm a) 1 b s codez_246 := And.intro mobz_1008 mobz_no
theorem mocodez_247 (b s : Nat) : xall (fun _ a => xBm a) 1 b s codez_247 := And.intro mobz_2032 mobz_no
theorem mocodez_248 (b s : Nat) : xall (fun _ a => xBm a) 2 b s codez_248 := And.intro (mocodez_246 b (2 * s)) (mocodez_247 (b + s) (2 * s))
theorem mocodez_249 (b s : Nat) : xall (fun _ a => xBm a) 3 b s codez_249 := And.intro (mocodez_245 b (2 * s)) (mocodez_248 (b + s) (2 * s))
theorem mocodez_250 (b s : Nat) : xall (fun _ a => xBm a) 4 b s codez_250 := And.intro (mocodez_242 b (2 * s)) (mocodez_249 (b + s) (2 * s))
theorem mocodez_251 (b s : Nat) : xall (fun _ a => xBm a) 5 b s codez_251 := And.intro (mocodez_235 b (2 * s)) (mocodez_250 (b + s) (2 * s))
theorem mocodez_252 (b s : Nat) : xall (fun _ a => xBm a) 6 b s codez_252 := And.intro (mocodez_220 b (2 * s)) (mocodez_251 (b + s) (2 * s))
theorem mocodez_253 (b s : Nat) : xall (fun _ a => xBm a) 7 b s codez_253 := And.intro (mocodez_189 b (2 * s)) (mocodez_252 (b + s) (2 * s))
theorem mocodez_254 (b s : Nat) : xall (fun _ a => xBm a) 8 b s codez_254 := And.intro (mocodez_126 b (2 * s)) (mocodez_253 (b + s) (2 * s))
theorem mocodez_255 (b s : Nat) : xall (fun _ a => xBm a) 1 b s codez_255 := And.intro mobz_8 mobz_2056
theorem mocodez_256 (b s : Nat) : xall (fun _ a => xBm a) 1 b s codez_256 := And.intro mobz_1032 mobz_no
theorem mocodez_257 (b s : Nat) : xall (fun _ a => xBm a) 2 b s codez_257 := And.intro (mocodez_255 b (2 * s)) (mocodez_256 (b + s) (2 * s))
theorem mocodez_258 (b s : Nat) : xall (fun _ a => xBm a) 1 b s codez_258 := And.intro mobz_520 mobz_no
theorem mocodez_259 (b s : Nat) : xall (fun _ a => xBm a) 1 b s codez_259 := And.intro mobz_1544 mobz_no
theorem mocodez_260 (b s : Nat) : xall (fun _ a => xBm a) 2 b s codez_260 := And.intro (mocodez_258 b (2 * s)) (mocodez_259 (b + s) (2 * s))
theorem mocodez_261 (b s : Nat) : xall (fun _ a => xBm a) 3 b s codez_261 := And.intro (mocodez_257 b (2 * s)) (mocodez_260 (b + s) (2 * s))
theorem mocodez_262 (b s : Nat) : xall (fun _ a => xBm a) 1 b s codez_262 := And.intro mobz_264 mobz_2312
theorem mocodez_263 (b s : Nat) : xall (fun _ a => xBm a) 1 b s codez_263 := And.intro mobz_1288 mobz_no
theorem mocodez_264 (b s : Nat) : xall (fun _ a => xBm a) 2 b s codez_264 := And.intro (mocodez_262 b (2 * s)) (mocodez_263 (b + s) (2 * s))
theorem mocodez_265 (b s : Nat) : xall (fun _ a => xBm a) 1 b s codez_265 := And.intro mobz_776 mobz_no
theorem mocodez_266 (b s : Nat) : xall (fun _ a => xBm a) 1 b s codez_266 := And.intro mobz_1800 mobz_no
theorem mocodez_267 (b s : Nat) : xall (fun _ a => xBm a) 2 b s codez_267 := And.intro (mocodez_265 b (2 * s)) (mocodez_266 (b + s) (2 * s))
theorem mocodez_268 (b s : Nat) : xall (fun _ a => xBm a) 3 b s codez_268 := And.intro (mocodez_264 b (2 * s)) (mocodez_267 (b + s) (2 * s))
theorem mocodez_269 (b s : Nat) : xall (fun _ a => xBm a) 4 b s codez_269 := And.intro (mocodez_261 b (2 * s)) (mocodez_268 (b + s) (2 * s))
theorem mocodez_270 (b s : Nat) : xall (fun _ a => xBm a) 1 b s codez_270 := And.intro mobz_136 mobz_2184
theorem mocodez_271 (b s : Nat) : xall (fun _ a => xBm a) 1 b s codez_271 := And.intro mobz_1160 mobz_no
theorem mocodez_272 (b s : Nat) : xall (fun _ a => xBm a) 2 b s codez_272 := And.intro (mocodez_270 b (2 * s)) (mocodez_271 (b + s) (2 * s))
theorem mocodez_273 (b s : Nat) : xall (fun _ a => xBm a) 1 b s codez_273 := And.intro mobz_648 mobz_no
theorem mocodez_274 (b s : Nat) : xall (fun _ a => xBm a) 1 b s codez_274 := And.intro mobz_1672 mobz_no
theorem mocodez_275 (b s : Nat) : xall (fun _ a => xBm a) 2 b s codez_275 := And.intro (mocodez_273 b (2 * s)) (mocodez_274 (b + s) (2 * s))
theorem mocodez_276 (b s : Nat) : xall (fun _ a => xBm a) 3 b s codez_276 := And.intro (mocodez_272 b (2 * s)) (mocodez_275 (b + s) (2 * s))
theorem mocodez_277 (b s : Nat) : xall (fun _ a => xBm a) 1 b s codez_277 := And.intro mobz_392 mobz_2440
theorem mocodez_278 (b s : Nat) : xall (fun _ a => xBm a) 1 b s codez_278 := And.intro mobz_1416 mobz_no
theorem mocodez_279 (b s : Nat) : xall (fun _ a => xBm a) 2 b s codez_279 := And.intro (mocodez_277 b (2 * s)) (mocodez_278 (b + s) (2 * s))
theorem mocodez_280 (b s : Nat) : xall (fun _ a => xBm a) 1 b s codez_280 := And.intro mobz_904 mobz_no
theorem mocodez_281 (b s : Nat) : xall (fun _ a => xBm a) 1 b s codez_281 := And.intro mobz_1928 mobz_no
theorem mocodez_282 (b s : Nat) : xall (fun _ a => xBm a) 2 b s codez_282 := And.intro (mocodez_280 b (2 * s)) (mocodez_281 (b + s) (2 * s))
theorem mocodez_283 (b s : Nat) : xall (fun _ a => xBm a) 3 b s codez_283 := And.intro (mocodez_279 b (2 * s)) (mocodez_282 (b + s) (2 * s))
theorem mocodez_284 (b s : Nat) : xall (fun _ a => xBm a) 4 b s codez_284 := And.intro (mocodez_276 b (2 * s)) (mocodez_283 (b + s) (2 * s))
theorem mocodez_285 (b s : Nat) : xall (fun _ a => xBm a) 5 b s codez_285 := And.intro (mocodez_269 b (2 * s)) (mocodez_284 (b + s) (2 * s))
theorem mocodez_286 (b s : Nat) : xall (fun _ a => xBm a) 1 b s codez_286 := And.intro mobz_72 mobz_2120
theorem mocodez_287 (b s : Nat) : xall (fun _ a => xBm a) 1 b s codez_287 := And.intro mobz_1096 mobz_no
theorem mocodez_288 (b s : Nat) : xall (fun _ a => xBm a) 2 b s codez_288 := And.intro (mocodez_286 b (2 * s)) (mocodez_287 (b + s) (2 * s))
theorem mocodez_289 (b s : Nat) : xall (fun _ a => xBm a) 1 b s codez_289 := And.intro mobz_584 mobz_no
theorem mocodez_290 (b s : Nat) : xall (fun _ a => xBm a) 1 b s codez_290 := And.intro mobz_1608 mobz_no
theorem mocodez_291 (b s : Nat) : xall (fun _ a => xBm a) 2 b s codez_291 := And.intro (mocodez_289 b (2 * s)) (mocodez_290 (b + s) (2 * s))
theorem mocodez_292 (b s : Nat) : xall (fun _ a => xBm a) 3 b s codez_292 := And.intro (mocodez_288 b (2 * s)) (mocodez_291 (b + s) (2 * s))
theorem mocodez_293 (b s : Nat) : xall (fun _ a => xBm a) 1 b s codez_293 := And.intro mobz_328 mobz_2376
theorem mocodez_294 (b s : Nat) : xall (fun _ a => xBm a) 1 b s codez_294 := And.intro mobz_1352 mobz_no
theorem mocodez_295 (b s : Nat) : xall (fun _ a => xBm a) 2 b s codez_295 := And.intro (mocodez_293 b (2 * s)) (mocodez_294 (b + s) (2 * s))
theorem mocodez_296 (b s : Nat) : xall (fun _ a => xBm a) 1 b s codez_296 := And.intro mobz_840 mobz_no
theorem mocodez_297 (b s : Nat) : xall (fun _ a => xBm a) 1 b s codez_297 := And.intro mobz_1864 mobz_no
theorem mocodez_298 (b s : Nat) : xall (fun _ a => xBm a) 2 b s codez_298 := And.intro (mocodez_296 b (2 * s)) (mocodez_297 (b + s) (2 * s))
theorem mocodez_299 (b s : Nat) : xall (fun _ a => xBm a) 3 b s codez_299 := And.intro (mocodez_295 b (2 * s)) (mocodez_298 (b + s) (2 * s))
theorem mocodez_300 (b s : Nat) : xall (fun _ a => xBm a) 4 b s codez_300 := And.intro (mocodez_292 b (2 * s)) (mocodez_299 (b + s) (2 * s))
theorem mocodez_301 (b s : Nat) : xall (fun _ a => xBm a) 1 b s codez_301 := And.intro mobz_200 mobz_2248
theorem mocodez_302 (b s : Nat) : xall (fun _ a => xBm a) 1 b s codez_302 := And.intro mobz_1224 mobz_no
theorem mocodez_303 (b s : Nat) : xall (fun _ a => xBm a) 2 b s codez_303 := And.intro (mocodez_301 b (2 * s)) (mocodez_302 (b + s) (2 * s))
theorem mocodez_304 (b s : Nat) : xall (fun _ a => xBm a) 1 b s codez_304 := And.intro mobz_712 mobz_no
theorem mocodez_305 (b s : Nat) : xall (fun _ a => xBm a) 1 b s codez_305 := And.intro mobz_1736 mobz_no
theorem mocodez_306 (b s : Nat) : xall (fun _ a => xBm a) 2 b s codez_306 := And.intro (mocodez_304 b (2 * s)) (mocodez_305 (b + s) (2 * s))
theorem mocodez_307 (b s : Nat) : xall (fun _ a => xBm a) 3 b s codez_307 := And.intro (mocodez_303 b (2 * s)) (mocodez_306 (b + s) (2 * s))
theorem mocodez_308 (b s : Nat) : xall (fun _ a => xBm a) 1 b s codez_308 := And.intro mobz_456 mobz_2504
theorem mocodez_309 (b s : Nat) : xall (fun _ a => xBm a) 1 b s codez_309 := And.intro mobz_1480 mobz_no
theorem mocodez_310 (b s : Nat) : xall (fun _ a => xBm a) 2 b s codez_310 := And.intro (mocodez_308 b (2 * s)) (mocodez_309 (b + s) (2 * s))
theorem mocodez_311 (b s : Nat) : xall (fun _ a => xBm a) 1 b s codez_311 := And.intro mobz_968 mobz_no
theorem mocodez_312 (b s : Nat) : xall (fun _ a => xBm a) 1 b s codez_312 := And.intro mobz_1992 mobz_no
theorem mocodez_313 (b s : Nat) : xall (fun _ a => xBm a) 2 b s codez_313 := And.intro (mocodez_311 b (2 * s)) (mocodez_312 (b + s) (2 * s))
theorem mocodez_314 (b s : Nat) : xall (fun _ a => xBm a) 3 b s codez_314 := And.intro (mocodez_310 b (2 * s)) (mocodez_313 (b + s) (2 * s))
theorem mocodez_315 (b s : Nat) : xall (fun _ a => xBm a) 4 b s codez_315 := And.intro (mocodez_307 b (2 * s)) (mocodez_314 (b + s) (2 * s))
theorem mocodez_316 (b s : Nat) : xall (fun _ a => xBm a) 5 b s codez_316 := And.intro (mocodez_300 b (2 * s)) (mocodez_315 (b + s) (2 * s))
theorem mocodez_317 (b s : Nat) : xall (fun _ a => xBm a) 6 b s codez_317 := And.intro (mocodez_285 b (2 * s)) (mocodez_316 (b + s) (2 * s))
theorem mocodez_318 (b s : Nat) : xall (fun _ a => xBm a) 1 b s codez_318 := And.intro mobz_40 mobz_2088
theorem mocodez_319 (b s : Nat) : xall (fun _ a => xBm a) 1 b s codez_319 := And.intro mobz_1064 mobz_no
theorem mocodez_320 (b s : Nat) : xall (fun _ a => xBm a) 2 b s codez_320 := And.intro (mocodez_318 b (2 * s)) (mocodez_319 (b + s) (2 * s))
theorem mocodez_321 (b s : Nat) : xall (fun _ a => xBm a) 1 b s codez_321 := And.intro mobz_552 mobz_no
theorem mocodez_322 (b s : Nat) : xall (fun _ a => xBm a) 1 b s codez_322 := And.intro mobz_1576 mobz_no
theorem mocodez_323 (b s : Nat) : xall (fun _ a => xBm a) 2 b s codez_323 := And.intro (mocodez_321 b (2 * s)) (mocodez_322 (b + s) (2 * s))
theorem mocodez_324 (b s : Nat) : xall (fun _ a => xBm a) 3 b s codez_324 := And.intro (mocodez_320 b (2 * s)) (mocodez_323 (b + s) (2 * s))
theorem mocodez_325 (b s : Nat) : xall (fun _ a => xBm a) 1 b s codez_325 := And.intro mobz_296 mobz_2344
theorem mocodez_326 (b s : Nat) : xall (fun _ a => xBm a) 1 b s codez_326 := And.intro mobz_1320 mobz_no
theorem mocodez_327 (b s : Nat) : xall (fun _ a => xBm a) 2 b s codez_327 := And.intro (mocodez_325 b (2 * s)) (mocodez_326 (b + s) (2 * s))
theorem mocodez_328 (b s : Nat) : xall (fun _ a => xBm a) 1 b s codez_328 := And.intro mobz_808 mobz_no
theorem mocodez_329 (b s : Nat) : xall (fun _ a => xBm a) 1 b s codez_329 := And.intro mobz_1832 mobz_no
theorem mocodez_330 (b s : Nat) : xall (fun _ a => xBm a) 2 b s codez_330 := And.intro (mocodez_328 b (2 * s)) (mocodez_329 (b + s) (2 * s))
theorem mocodez_331 (b s : Nat) : xall (fun _ a => xBm a) 3 b s codez_331 := And.intro (mocodez_327 b (2 * s)) (mocodez_330 (b + s) (2 * s))
theorem mocodez_332 (b s : Nat) : xall (fun _ a => xBm a) 4 b s codez_332 := And.intro (mocodez_324 b (2 * s)) (mocodez_331 (b + s) (2 * s))
theorem mocodez_333 (b s : Nat) : xall (fun _ a => xBm a) 1 b s codez_333 := And.intro mobz_168 mobz_2216
theorem mocodez_334 (b s : Nat) : xall (fun _ a => xBm a) 1 b s codez_334 := And.intro mobz_1192 mobz_no
theorem mocodez_335 (b s : Nat) : xall (fun _ a => xBm a) 2 b s codez_335 := And.intro (mocodez_333 b (2 * s)) (mocodez_334 (b + s) (2 * s))
theorem mocodez_336 (b s : Nat) : xall (fun _ a => xBm a) 1 b s codez_336 := And.intro mobz_680 mobz_no
theorem mocodez_337 (b s : Nat) : xall (fun _ a => xBm a) 1 b s codez_337 := And.intro mobz_1704 mobz_no
theorem mocodez_338 (b s : Nat) : xall (fun _ a => xBm a) 2 b s codez_338 := And.intro (mocodez_336 b (2 * s)) (mocodez_337 (b + s) (2 * s))
theorem mocodez_339 (b s : Nat) : xall (fun _ a => xBm a) 3 b s codez_339 := And.intro (mocodez_335 b (2 * s)) (mocodez_338 (b + s) (2 * s))
theorem mocodez_340 (b s : Nat) : xall (fun _ a => xBm a) 1 b s codez_340 := And.intro mobz_424 mobz_2472
theorem mocodez_341 (b s : Nat) : xall (fun _ a => xBm a) 1 b s codez_341 := And.intro mobz_1448 mobz_no
theorem mocodez_342 (b s : Nat) : xall (fun _ a => xBm a) 2 b s codez_342 := And.intro (mocodez_340 b (2 * s)) (mocodez_341 (b + s) (2 * s))
theorem mocodez_343 (b s : Nat) : xall (fun _ a => xBm a) 1 b s codez_343 := And.intro mobz_936 mobz_no
theorem mocodez_344 (b s : Nat) : xall (fun _ a => xBm a) 1 b s codez_344 := And.intro mobz_1960 mobz_no
theorem mocodez_345 (b s : Nat) : xall (fun _ a => xBm a) 2 b s codez_345 := And.intro (mocodez_343 b (2 * s)) (mocodez_344 (b + s) (2 * s))
theorem mocodez_346 (b s : Nat) : xall (fun _ a => xBm a) 3 b s codez_346 := And.intro (mocodez_342 b (2 * s)) (mocodez_345 (b + s) (2 * s))
theorem mocodez_347 (b s : Nat) : xall (fun _ a => xBm a) 4 b s codez_347 := And.intro (mocodez_339 b (2 * s)) (mocodez_346 (b + s) (2 * s))
theorem mocodez_348 (b s : Nat) : xall (fun _ a => xBm a) 5 b s codez_348 := And.intro (mocodez_332 b (2 * s)) (mocodez_347 (b + s) (2 * s))
theorem mocodez_349 (b s : Nat) : xall (fun _ a => xBm a) 1 b s codez_349 := And.intro mobz_104 mobz_2152
theorem mocodez_350 (b s : Nat) : xall (fun _ a => xBm a) 1 b s codez_350 := And.intro mobz_1128 mobz_no
theorem mocodez_351 (b s : Nat) : xall (fun _ a => xBm a) 2 b s codez_351 := And.intro (mocodez_349 b (2 * s)) (mocodez_350 (b + s) (2 * s))
theorem mocodez_352 (b s : Nat) : xall (fun _ a => xBm a) 1 b s codez_352 := And.intro mobz_616 mobz_no
theorem mocodez_353 (b s : Nat) : xall (fun _ a => xBm a) 1 b s codez_353 := And.intro mobz_1640 mobz_no
theorem mocodez_354 (b s : Nat) : xall (fun _ a => xBm a) 2 b s codez_354 := And.intro (mocodez_352 b (2 * s)) (mocodez_353 (b + s) (2 * s))
theorem mocodez_355 (b s : Nat) : xall (fun _ a => xBm a) 3 b s codez_355 := And.intro (mocodez_351 b (2 * s)) (mocodez_354 (b + s) (2 * s))
theorem mocodez_356 (b s : Nat) : xall (fun _ a => xBm a) 1 b s codez_356 := And.intro mobz_360 mobz_2408
theorem mocodez_357 (b s : Nat) : xall (fun _ a => xBm a) 1 b s codez_357 := And.intro mobz_1384 mobz_no
theorem mocodez_358 (b s : Nat) : xall (fun _ a => xBm a) 2 b s codez_358 := And.intro (mocodez_356 b (2 * s)) (mocodez_357 (b + s) (2 * s))
theorem mocodez_359 (b s : Nat) : xall (fun _ a => xBm a) 1 b s codez_359 := And.intro mobz_872 mobz_no
theorem mocodez_360 (b s : Nat) : xall (fun _ a => xBm a) 1 b s codez_360 := And.intro mobz_1896 mobz_no
theorem mocodez_361 (b s : Nat) : xall (fun _ a => xBm a) 2 b s codez_361 := And.intro (mocodez_359 b (2 * s)) (mocodez_360 (b + s) (2 * s))
theorem mocodez_362 (b s : Nat) : xall (fun _ a => xBm a) 3 b s codez_362 := And.intro (mocodez_358 b (2 * s)) (mocodez_361 (b + s) (2 * s))
theorem mocodez_363 (b s : Nat) : xall (fun _ a => xBm a) 4 b s codez_363 := And.intro (mocodez_355 b (2 * s)) (mocodez_362 (b + s) (2 * s))
theorem mocodez_364 (b s : Nat) : xall (fun _ a => xBm a) 1 b s codez_364 := And.intro mobz_232 mobz_2280
theorem mocodez_365 (b s : Nat) : xall (fun _ a => xBm a) 1 b s codez_365 := And.intro mobz_1256 mobz_no
theorem mocodez_366 (b s : Nat) : xall (fun _ a => xBm a) 2 b s codez_366 := And.intro (mocodez_364 b (2 * s)) (mocodez_365 (b + s) (2 * s))
theorem mocodez_367 (b s : Nat) : xall (fun _ a => xBm a) 1 b s codez_367 := And.intro mobz_744 mobz_no
theorem mocodez_368 (b s : Nat) : xall (fun _ a => xBm a) 1 b s codez_368 := And.intro mobz_1768 mobz_no
theorem mocodez_369 (b s : Nat) : xall (fun _ a => xBm a) 2 b s codez_369 := And.intro (mocodez_367 b (2 * s)) (mocodez_368 (b + s) (2 * s))
theorem mocodez_370 (b s : Nat) : xall (fun _ a => xBm a) 3 b s codez_370 := And.intro (mocodez_366 b (2 * s)) (mocodez_369 (b + s) (2 * s))
theorem mocodez_371 (b s : Nat) : xall (fun _ a => xBm a) 1 b s codez_371 := And.intro mobz_488 mobz_2536
theorem mocodez_372 (b s : Nat) : xall (fun _ a => xBm a) 1 b s codez_372 := And.intro mobz_1512 mobz_no
theorem mocodez_373 (b s : Nat) : xall (fun _ a => xBm a) 2 b s codez_373 := And.intro (mocodez_371 b (2 * s)) (mocodez_372 (b + s) (2 * s))
theorem mocodez_374 (b s : Nat) : xall (fun _ a => xBm a) 1 b s codez_374 := And.intro mobz_1000 mobz_no
theorem mocodez_375 (b s : Nat) : xall (fun _ a => xBm a) 1 b s codez_375 := And.intro mobz_2024 mobz_no
theorem mocodez_376 (b s : Nat) : xall (fun _ a => xBm a) 2 b s codez_376 := And.intro (mocodez_374 b (2 * s)) (mocodez_375 (b + s) (2 * s))
theorem mocodez_377 (b s : Nat) : xall (fun _ a => xBm a) 3 b s codez_377 := And.intro (mocodez_373 b (2 * s)) (mocodez_376 (b + s) (2 * s))
theorem mocodez_378 (b s : Nat) : xall (fun _ a => xBm a) 4 b s codez_378 := And.intro (mocodez_370 b (2 * s)) (mocodez_377 (b + s) (2 * s))
theorem mocodez_379 (b s : Nat) : xall (fun _ a => xBm a) 5 b s codez_379 := And.intro (mocodez_363 b (2 * s)) (mocodez_378 (b + s) (2 * s))
theorem mocodez_380 (b s : Nat) : xall (fun _ a => xBm a) 6 b s codez_380 := And.intro (mocodez_348 b (2 * s)) (mocodez_379 (b + s) (2 * s))
theorem mocodez_381 (b s : Nat) : xall (fun _ a => xBm a) 7 b s codez_381 := And.intro (mocodez_317 b (2 * s)) (mocodez_380 (b + s) (2 * s))
theorem mocodez_382 (b s : Nat) : xall (fun _ a => xBm a) 1 b s codez_382 := And.intro mobz_24 mobz_2072
theorem mocodez_383 (b s : Nat) : xall (fun _ a => xBm a) 1 b s codez_383 := And.intro mobz_1048 mobz_no
theorem mocodez_384 (b s : Nat) : xall (fun _ a => xBm a) 2 b s codez_384 := And.intro (mocodez_382 b (2 * s)) (mocodez_383 (b + s) (2 * s))
theorem mocodez_385 (b s : Nat) : xall (fun _ a => xBm a) 1 b s codez_385 := And.intro mobz_536 mobz_no
theorem mocodez_386 (b s : Nat) : xall (fun _ a => xBm a) 1 b s codez_386 := And.intro mobz_1560 mobz_no
theorem mocodez_387 (b s : Nat) : xall (fun _ a => xBm a) 2 b s codez_387 := And.intro (mocodez_385 b (2 * s)) (mocodez_386 (b + s) (2 * s))
theorem mocodez_388 (b s : Nat) : xall (fun _ a => xBm a) 3 b s codez_388 := And.intro (mocodez_384 b (2 * s)) (mocodez_387 (b + s) (2 * s))
theorem mocodez_389 (b s : Nat) : xall (fun _ a => xBm a) 1 b s codez_389 := And.intro mobz_280 mobz_2328
theorem mocodez_390 (b s : Nat) : xall (fun _ a => xBm a) 1 b s codez_390 := And.intro mobz_1304 mobz_no
theorem mocodez_391 (b s : Nat) : xall (fun _ a => xBm a) 2 b s codez_391 := And.intro (mocodez_389 b (2 * s)) (mocodez_390 (b + s) (2 * s))
theorem mocodez_392 (b s : Nat) : xall (fun _ a => xBm a) 1 b s codez_392 := And.intro mobz_792 mobz_no
theorem mocodez_393 (b s : Nat) : xall (fun _ a => xBm a) 1 b s codez_393 := And.intro mobz_1816 mobz_no
theorem mocodez_394 (b s : Nat) : xall (fun _ a => xBm a) 2 b s codez_394 := And.intro (mocodez_392 b (2 * s)) (mocodez_393 (b + s) (2 * s))
theorem mocodez_395 (b s : Nat) : xall (fun _ a => xBm a) 3 b s codez_395 := And.intro (mocodez_391 b (2 * s)) (mocodez_394 (b + s) (2 * s))
theorem mocodez_396 (b s : Nat) : xall (fun _ a => xBm a) 4 b s codez_396 := And.intro (mocodez_388 b (2 * s)) (mocodez_395 (b + s) (2 * s))
theorem mocodez_397 (b s : Nat) : xall (fun _ a => xBm a) 1 b s codez_397 := And.intro mobz_152 mobz_2200
theorem mocodez_398 (b s : Nat) : xall (fun _ a => xBm a) 1 b s codez_398 := And.intro mobz_1176 mobz_no
theorem mocodez_399 (b s : Nat) : xall (fun _ a => xBm a) 2 b s codez_399 := And.intro (mocodez_397 b (2 * s)) (mocodez_398 (b + s) (2 * s))
theorem mocodez_400 (b s : Nat) : xall (fun _ a => xBm a) 1 b s codez_400 := And.intro mobz_664 mobz_no
theorem mocodez_401 (b s : Nat) : xall (fun _ a => xBm a) 1 b s codez_401 := And.intro mobz_1688 mobz_no
theorem mocodez_402 (b s : Nat) : xall (fun _ a => xBm a) 2 b s codez_402 := And.intro (mocodez_400 b (2 * s)) (mocodez_401 (b + s) (2 * s))
theorem mocodez_403 (b s : Nat) : xall (fun _ a => xBm a) 3 b s codez_403 := And.intro (mocodez_399 b (2 * s)) (mocodez_402 (b + s) (2 * s))
theorem mocodez_404 (b s : Nat) : xall (fun _ a => xBm a) 1 b s codez_404 := And.intro mobz_408 mobz_2456
theorem mocodez_405 (b s : Nat) : xall (fun _ a => xBm a) 1 b s codez_405 := And.intro mobz_1432 mobz_no
theorem mocodez_406 (b s : Nat) : xall (fun _ a => xBm a) 2 b s codez_406 := And.intro (mocodez_404 b (2 * s)) (mocodez_405 (b + s) (2 * s))
theorem mocodez_407 (b s : Nat) : xall (fun _ a => xBm a) 1 b s codez_407 := And.intro mobz_920 mobz_no
theorem mocodez_408 (b s : Nat) : xall (fun _ a => xBm a) 1 b s codez_408 := And.intro mobz_1944 mobz_no
theorem mocodez_409 (b s : Nat) : xall (fun _ a => xBm a) 2 b s codez_409 := And.intro (mocodez_407 b (2 * s)) (mocodez_408 (b + s) (2 * s))
theorem mocodez_410 (b s : Nat) : xall (fun _ a => xBm a) 3 b s codez_410 := And.intro (mocodez_406 b (2 * s)) (mocodez_409 (b + s) (2 * s))
theorem mocodez_411 (b s : Nat) : xall (fun _ a => xBm a) 4 b s codez_411 := And.intro (mocodez_403 b (2 * s)) (mocodez_410 (b + s) (2 * s))
theorem mocodez_412 (b s : Nat) : xall (fun _ a => xBm a) 5 b s codez_412 := And.intro (mocodez_396 b (2 * s)) (mocodez_411 (b + s) (2 * s))
theorem mocodez_413 (b s : Nat) : xall (fun _ a => xBm a) 1 b s codez_413 := And.intro mobz_88 mobz_2136
theorem mocodez_414 (b s : Nat) : xall (fun _ a => xBm a) 1 b s codez_414 := And.intro mobz_1112 mobz_no
theorem mocodez_415 (b s : Nat) : xall (fun _ a => xBm a) 2 b s codez_415 := And.intro (mocodez_413 b (2 * s)) (mocodez_414 (b + s) (2 * s))
theorem mocodez_416 (b s : Nat) : xall (fun _ a => xBm a) 1 b s codez_416 := And.intro mobz_600 mobz_no
theorem mocodez_417 (b s : Nat) : xall (fun _ a => xBm a) 1 b s codez_417 := And.intro mobz_1624 mobz_no
theorem mocodez_418 (b s : Nat) : xall (fun _ a => xBm a) 2 b s codez_418 := And.intro (mocodez_416 b (2 * s)) (mocodez_417 (b + s) (2 * s))
theorem mocodez_419 (b s : Nat) : xall (fun _ a => xBm a) 3 b s codez_419 := And.intro (mocodez_415 b (2 * s)) (mocodez_418 (b + s) (2 * s))
theorem mocodez_420 (b s : Nat) : xall (fun _ a => xBm a) 1 b s codez_420 := And.intro mobz_344 mobz_2392
theorem mocodez_421 (b s : Nat) : xall (fun _ a => xBm a) 1 b s codez_421 := And.intro mobz_1368 mobz_no
theorem mocodez_422 (b s : Nat) : xall (fun _ a => xBm a) 2 b s codez_422 := And.intro (mocodez_420 b (2 * s)) (mocodez_421 (b + s) (2 * s))
theorem mocodez_423 (b s : Nat) : xall (fun _ a => xBm a) 1 b s codez_423 := And.intro mobz_856 mobz_no
theorem mocodez_424 (b s : Nat) : xall (fun _ a => xBm a) 1 b s codez_424 := And.intro mobz_1880 mobz_no
theorem mocodez_425 (b s : Nat) : xall (fun _ a => xBm a) 2 b s codez_425 := And.intro (mocodez_423 b (2 * s)) (mocodez_424 (b + s) (2 * s))
theorem mocodez_426 (b s : Nat) : xall (fun _ a => xBm a) 3 b s codez_426 := And.intro (mocodez_422 b (2 * s)) (mocodez_425 (b + s) (2 * s))
theorem mocodez_427 (b s : Nat) : xall (fun _ a => xBm a) 4 b s codez_427 := And.intro (mocodez_419 b (2 * s)) (mocodez_426 (b + s) (2 * s))
theorem mocodez_428 (b s : Nat) : xall (fun _ a => xBm a) 1 b s codez_428 := And.intro mobz_216 mobz_2264
theorem mocodez_429 (b s : Nat) : xall (fun _ a => xBm a) 1 b s codez_429 := And.intro mobz_1240 mobz_no
theorem mocodez_430 (b s : Nat) : xall (fun _ a => xBm a) 2 b s codez_430 := And.intro (mocodez_428 b (2 * s)) (mocodez_429 (b + s) (2 * s))
theorem mocodez_431 (b s : Nat) : xall (fun _ a => xBm a) 1 b s codez_431 := And.intro mobz_728 mobz_no
theorem mocodez_432 (b s : Nat) : xall (fun _ a => xBm a) 1 b s codez_432 := And.intro mobz_1752 mobz_no
theorem mocodez_433 (b s : Nat) : xall (fun _ a => xBm a) 2 b s codez_433 := And.intro (mocodez_431 b (2 * s)) (mocodez_432 (b + s) (2 * s))
theorem mocodez_434 (b s : Nat) : xall (fun _ a => xBm a) 3 b s codez_434 := And.intro (mocodez_430 b (2 * s)) (mocodez_433 (b + s) (2 * s))
theorem mocodez_435 (b s : Nat) : xall (fun _ a => xBm a) 1 b s codez_435 := And.intro mobz_472 mobz_2520
theorem mocodez_436 (b s : Nat) : xall (fun _ a => xBm a) 1 b s codez_436 := And.intro mobz_1496 mobz_no
theorem mocodez_437 (b s : Nat) : xall (fun _ a => xBm a) 2 b s codez_437 := And.intro (mocodez_435 b (2 * s)) (mocodez_436 (b + s) (2 * s))
theorem mocodez_438 (b s : Nat) : xall (fun _ a => xBm a) 1 b s codez_438 := And.intro mobz_984 mobz_no
theorem mocodez_439 (b s : Nat) : xall (fun _ a => xBm a) 1 b s codez_439 := And.intro mobz_2008 mobz_no
theorem mocodez_440 (b s : Nat) : xall (fun _ a => xBm a) 2 b s codez_440 := And.intro (mocodez_438 b (2 * s)) (mocodez_439 (b + s) (2 * s))
theorem mocodez_441 (b s : Nat) : xall (fun _ a => xBm a) 3 b s codez_441 := And.intro (mocodez_437 b (2 * s)) (mocodez_440 (b + s) (2 * s))
theorem mocodez_442 (b s : Nat) : xall (fun _ a => xBm a) 4 b s codez_442 := And.intro (mocodez_434 b (2 * s)) (mocodez_441 (b + s) (2 * s))
theorem mocodez_443 (b s : Nat) : xall (fun _ a => xBm a) 5 b s codez_443 := And.intro (mocodez_427 b (2 * s)) (mocodez_442 (b + s) (2 * s))
theorem mocodez_444 (b s : Nat) : xall (fun _ a => xBm a) 6 b s codez_444 := And.intro (mocodez_412 b (2 * s)) (mocodez_443 (b + s) (2 * s))
theorem mocodez_445 (b s : Nat) : xall (fun _ a => xBm a) 1 b s codez_445 := And.intro mobz_56 mobz_2104
theorem mocodez_446 (b s : Nat) : xall (fun _ a => xBm a) 1 b s codez_446 := And.intro mobz_1080 mobz_no
theorem mocodez_447 (b s : Nat) : xall (fun _ a => xBm a) 2 b s codez_447 := And.intro (mocodez_445 b (2 * s)) (mocodez_446 (b + s) (2 * s))
theorem mocodez_448 (b s : Nat) : xall (fun _ a => xBm a) 1 b s codez_448 := And.intro mobz_568 mobz_no
theorem mocodez_449 (b s : Nat) : xall (fun _ a => xBm a) 1 b s codez_449 := And.intro mobz_1592 mobz_no
theorem mocodez_450 (b s : Nat) : xall (fun _ a => xBm a) 2 b s codez_450 := And.intro (mocodez_448 b (2 * s)) (mocodez_449 (b + s) (2 * s))
theorem mocodez_451 (b s : Nat) : xall (fun _ a => xBm a) 3 b s codez_451 := And.intro (mocodez_447 b (2 * s)) (mocodez_450 (b + s) (2 * s))
theorem mocodez_452 (b s : Nat) : xall (fun _ a => xBm a) 1 b s codez_452 := And.intro mobz_312 mobz_2360
theorem mocodez_453 (b s : Nat) : xall (fun _ a => xBm a) 1 b s codez_453 := And.intro mobz_1336 mobz_no
theorem mocodez_454 (b s : Nat) : xall (fun _ a => xBm a) 2 b s codez_454 := And.intro (mocodez_452 b (2 * s)) (mocodez_453 (b + s) (2 * s))
theorem mocodez_455 (b s : Nat) : xall (fun _ a => xBm a) 1 b s codez_455 := And.intro mobz_824 mobz_no
theorem mocodez_456 (b s : Nat) : xall (fun _ a => xBm a) 1 b s codez_456 := And.intro mobz_1848 mobz_no
theorem mocodez_457 (b s : Nat) : xall (fun _ a => xBm a) 2 b s codez_457 := And.intro (mocodez_455 b (2 * s)) (mocodez_456 (b + s) (2 * s))
theorem mocodez_458 (b s : Nat) : xall (fun _ a => xBm a) 3 b s codez_458 := And.intro (mocodez_454 b (2 * s)) (mocodez_457 (b + s) (2 * s))
theorem mocodez_459 (b s : Nat) : xall (fun _ a => xBm a) 4 b s codez_459 := And.intro (mocodez_451 b (2 * s)) (mocodez_458 (b + s) (2 * s))
theorem mocodez_460 (b s : Nat) : xall (fun _ a => xBm a) 1 b s codez_460 := And.intro mobz_184 mobz_2232
theorem mocodez_461 (b s : Nat) : xall (fun _ a => xBm a) 1 b s codez_461 := And.intro mobz_1208 mobz_no
theorem mocodez_462 (b s : Nat) : xall (fun _ a => xBm a) 2 b s codez_462 := And.intro (mocodez_460 b (2 * s)) (mocodez_461 (b + s) (2 * s))
theorem mocodez_463 (b s : Nat) : xall (fun _ a => xBm a) 1 b s codez_463 := And.intro mobz_696 mobz_no
theorem mocodez_464 (b s : Nat) : xall (fun _ a => xBm a) 1 b s codez_464 := And.intro mobz_1720 mobz_no
theorem mocodez_465 (b s : Nat) : xall (fun _ a => xBm a) 2 b s codez_465 := And.intro (mocodez_463 b (2 * s)) (mocodez_464 (b + s) (2 * s))
theorem mocodez_466 (b s : Nat) : xall (fun _ a => xBm a) 3 b s codez_466 := And.intro (mocodez_462 b (2 * s)) (mocodez_465 (b + s) (2 * s))
theorem mocodez_467 (b s : Nat) : xall (fun _ a => xBm a) 1 b s codez_467 := And.intro mobz_440 mobz_2488
theorem mocodez_468 (b s : Nat) : xall (fun _ a => xBm a) 1 b s codez_468 := And.intro mobz_1464 mobz_no
theorem mocodez_469 (b s : Nat) : xall (fun _ a => xBm a) 2 b s codez_469 := And.intro (mocodez_467 b (2 * s)) (mocodez_468 (b + s) (2 * s))
theorem mocodez_470 (b s : Nat) : xall (fun _ a => xBm a) 1 b s codez_470 := And.intro mobz_952 mobz_no
theorem mocodez_471 (b s : Nat) : xall (fun _ a => xBm a) 1 b s codez_471 := And.intro mobz_1976 mobz_no
theorem mocodez_472 (b s : Nat) : xall (fun _ a => xBm a) 2 b s codez_472 := And.intro (mocodez_470 b (2 * s)) (mocodez_471 (b + s) (2 * s))
theorem mocodez_473 (b s : Nat) : xall (fun _ a => xBm a) 3 b s codez_473 := And.intro (mocodez_469 b (2 * s)) (mocodez_472 (b + s) (2 * s))
theorem mocodez_474 (b s : Nat) : xall (fun _ a => xBm a) 4 b s codez_474 := And.intro (mocodez_466 b (2 * s)) (mocodez_473 (b + s) (2 * s))
theorem mocodez_475 (b s : Nat) : xall (fun _ a => xBm a) 5 b s codez_475 := And.intro (mocodez_459 b (2 * s)) (mocodez_474 (b + s) (2 * s))
theorem mocodez_476 (b s : Nat) : xall (fun _ a => xBm a) 1 b s codez_476 := And.intro mobz_120 mobz_2168
theorem mocodez_477 (b s : Nat) : xall (fun _ a => xBm a) 1 b s codez_477 := And.intro mobz_1144 mobz_no
theorem mocodez_478 (b s : Nat) : xall (fun _ a => xBm a) 2 b s codez_478 := And.intro (mocodez_476 b (2 * s)) (mocodez_477 (b + s) (2 * s))
theorem mocodez_479 (b s : Nat) : xall (fun _ a => xBm a) 1 b s codez_479 := And.intro mobz_632 mobz_no
theorem mocodez_480 (b s : Nat) : xall (fun _ a => xBm a) 1 b s codez_480 := And.intro mobz_1656 mobz_no
theorem mocodez_481 (b s : Nat) : xall (fun _ a => xBm a) 2 b s codez_481 := And.intro (mocodez_479 b (2 * s)) (mocodez_480 (b + s) (2 * s))
theorem mocodez_482 (b s : Nat) : xall (fun _ a => xBm a) 3 b s codez_482 := And.intro (mocodez_478 b (2 * s)) (mocodez_481 (b + s) (2 * s))
theorem mocodez_483 (b s : Nat) : xall (fun _ a => xBm a) 1 b s codez_483 := And.intro mobz_376 mobz_2424
theorem mocodez_484 (b s : Nat) : xall (fun _ a => xBm a) 1 b s codez_484 := And.intro mobz_1400 mobz_no
theorem mocodez_485 (b s : Nat) : xall (fun _ a => xBm a) 2 b s codez_485 := And.intro (mocodez_483 b (2 * s)) (mocodez_484 (b + s) (2 * s))
theorem mocodez_486 (b s : Nat) : xall (fun _ a => xBm a) 1 b s codez_486 := And.intro mobz_888 mobz_no
theorem mocodez_487 (b s : Nat) : xall (fun _ a => xBm a) 1 b s codez_487 := And.intro mobz_1912 mobz_no
theorem mocodez_488 (b s : Nat) : xall (fun _ a => xBm a) 2 b s codez_488 := And.intro (mocodez_486 b (2 * s)) (mocodez_487 (b + s) (2 * s))
theorem mocodez_489 (b s : Nat) : xall (fun _ a => xBm a) 3 b s codez_489 := And.intro (mocodez_485 b (2 * s)) (mocodez_488 (b + s) (2 * s))
theorem mocodez_490 (b s : Nat) : xall (fun _ a => xBm a) 4 b s codez_490 := And.intro (mocodez_482 b (2 * s)) (mocodez_489 (b + s) (2 * s))
theorem mocodez_491 (b s : Nat) : xall (fun _ a => xBm a) 1 b s codez_491 := And.intro mobz_248 mobz_2296
theorem mocodez_492 (b s : Nat) : xall (fun _ a => xBm a) 1 b s codez_492 := And.intro mobz_1272 mobz_no
theorem mocodez_493 (b s : Nat) : xall (fun _ a => xBm a) 2 b s codez_493 := And.intro (mocodez_491 b (2 * s)) (mocodez_492 (b + s) (2 * s))
theorem mocodez_494 (b s : Nat) : xall (fun _ a => xBm a) 1 b s codez_494 := And.intro mobz_760 mobz_no
theorem mocodez_495 (b s : Nat) : xall (fun _ a => xBm a) 1 b s codez_495 := And.intro mobz_1784 mobz_no
theorem mocodez_496 (b s : Nat) : xall (fun _ a => xBm a) 2 b s codez_496 := And.intro (mocodez_494 b (2 * s)) (mocodez_495 (b + s) (2 * s))
theorem mocodez_497 (b s : Nat) : xall (fun _ a => xBm a) 3 b s codez_497 := And.intro (mocodez_493 b (2 * s)) (mocodez_496 (b + s) (2 * s))
theorem mocodez_498 (b s : Nat) : xall (fun _ a => xBm a) 1 b s codez_498 := And.intro mobz_504 mobz_no
theorem mocodez_499 (b s : Nat) : xall (fun _ a => xBm a) 1 b s codez_499 := And.intro mobz_1528 mobz_no
theorem mocodez_500 (b s : Nat) : xall (fun _ a => xBm a) 2 b s codez_500 := And.intro (mocodez_498 b (2 * s)) (mocodez_499 (b + s) (2 * s))
theorem mocodez_501 (b s : Nat) : xall (fun _ a => xBm a) 1 b s codez_501 := And.intro mobz_1016 mobz_no
theorem mocodez_502 (b s : Nat) : xall (fun _ a => xBm a) 1 b s codez_502 := And.intro mobz_2040 mobz_no
theorem mocodez_503 (b s : Nat) : xall (fun _ a => xBm a) 2 b s codez_503 := And.intro (mocodez_501 b (2 * s)) (mocodez_502 (b + s) (2 * s))
theorem mocodez_504 (b s : Nat) : xall (fun _ a => xBm a) 3 b s codez_504 := And.intro (mocodez_500 b (2 * s)) (mocodez_503 (b + s) (2 * s))
theorem mocodez_505 (b s : Nat) : xall (fun _ a => xBm a) 4 b s codez_505 := And.intro (mocodez_497 b (2 * s)) (mocodez_504 (b + s) (2 * s))
theorem mocodez_506 (b s : Nat) : xall (fun _ a => xBm a) 5 b s codez_506 := And.intro (mocodez_490 b (2 * s)) (mocodez_505 (b + s) (2 * s))
theorem mocodez_507 (b s : Nat) : xall (fun _ a => xBm a) 6 b s codez_507 := And.intro (mocodez_475 b (2 * s)) (mocodez_506 (b + s) (2 * s))
theorem mocodez_508 (b s : Nat) : xall (fun _ a => xBm a) 7 b s codez_508 := And.intro (mocodez_444 b (2 * s)) (mocodez_507 (b + s) (2 * s))
theorem mocodez_509 (b s : Nat) : xall (fun _ a => xBm a) 8 b s codez_509 := And.intro (mocodez_381 b (2 * s)) (mocodez_508 (b + s) (2 * s))
theorem mocodez_510 (b s : Nat) : xall (fun _ a => xBm a) 9 b s codez_510 := And.intro (mocodez_254 b (2 * s)) (mocodez_509 (b + s) (2 * s))
theorem mocodez_511 (b s : Nat) : xall (fun _ a => xBm a) 1 b s codez_511 := And.intro mobz_4 mobz_2052
theorem mocodez_512 (b s : Nat) : xall (fun _ a => xBm a) 1 b s codez_512 := And.intro mobz_1028 mobz_no
theorem mocodez_513 (b s : Nat) : xall (fun _ a => xBm a) 2 b s codez_513 := And.intro (mocodez_511 b (2 * s)) (mocodez_512 (b + s) (2 * s))
theorem mocodez_514 (b s : Nat) : xall (fun _ a => xBm a) 1 b s codez_514 := And.intro mobz_516 mobz_no
theorem mocodez_515 (b s : Nat) : xall (fun _ a => xBm a) 1 b s codez_515 := And.intro mobz_1540 mobz_no
theorem mocodez_516 (b s : Nat) : xall (fun _ a => xBm a) 2 b s codez_516 := And.intro (mocodez_514 b (2 * s)) (mocodez_515 (b + s) (2 * s))
theorem mocodez_517 (b s : Nat) : xall (fun _ a => xBm a) 3 b s codez_517 := And.intro (mocodez_513 b (2 * s)) (mocodez_516 (b + s) (2 * s))
theorem mocodez_518 (b s : Nat) : xall (fun _ a => xBm a) 1 b s codez_518 := And.intro mobz_260 mobz_2308
theorem mocodez_519 (b s : Nat) : xall (fun _ a => xBm a) 1 b s codez_519 := And.intro mobz_1284 mobz_no
theorem mocodez_520 (b s : Nat) : xall (fun _ a => xBm a) 2 b s codez_520 := And.intro (mocodez_518 b (2 * s)) (mocodez_519 (b + s) (2 * s))
theorem mocodez_521 (b s : Nat) : xall (fun _ a => xBm a) 1 b s codez_521 := And.intro mobz_772 mobz_no
theorem mocodez_522 (b s : Nat) : xall (fun _ a => xBm a) 1 b s codez_522 := And.intro mobz_1796 mobz_no
theorem mocodez_523 (b s : Nat) : xall (fun _ a => xBm a) 2 b s codez_523 := And.intro (mocodez_521 b (2 * s)) (mocodez_522 (b + s) (2 * s))
theorem mocodez_524 (b s : Nat) : xall (fun _ a => xBm a) 3 b s codez_524 := And.intro (mocodez_520 b (2 * s)) (mocodez_523 (b + s) (2 * s))
theorem mocodez_525 (b s : Nat) : xall (fun _ a => xBm a) 4 b s codez_525 := And.intro (mocodez_517 b (2 * s)) (mocodez_524 (b + s) (2 * s))
theorem mocodez_526 (b s : Nat) : xall (fun _ a => xBm a) 1 b s codez_526 := And.intro mobz_132 mobz_2180
theorem mocodez_527 (b s : Nat) : xall (fun _ a => xBm a) 1 b s codez_527 := And.intro mobz_1156 mobz_no
theorem mocodez_528 (b s : Nat) : xall (fun _ a => xBm a) 2 b s codez_528 := And.intro (mocodez_526 b (2 * s)) (mocodez_527 (b + s) (2 * s))
theorem mocodez_529 (b s : Nat) : xall (fun _ a => xBm a) 1 b s codez_529 := And.intro mobz_644 mobz_no
theorem mocodez_530 (b s : Nat) : xall (fun _ a => xBm a) 1 b s codez_530 := And.intro mobz_1668 mobz_no
theorem mocodez_531 (b s : Nat) : xall (fun _ a => xBm a) 2 b s codez_531 := And.intro (mocodez_529 b (2 * s)) (mocodez_530 (b + s) (2 * s))
theorem mocodez_532 (b s : Nat) : xall (fun _ a => xBm a) 3 b s codez_532 := And.intro (mocodez_528 b (2 * s)) (mocodez_531 (b + s) (2 * s))
theorem mocodez_533 (b s : Nat) : xall (fun _ a => xBm a) 1 b s codez_533 := And.intro mobz_388 mobz_2436
theorem mocodez_534 (b s : Nat) : xall (fun _ a => xBm a) 1 b s codez_534 := And.intro mobz_1412 mobz_no
theorem mocodez_535 (b s : Nat) : xall (fun _ a => xBm a) 2 b s codez_535 := And.intro (mocodez_533 b (2 * s)) (mocodez_534 (b + s) (2 * s))
theorem mocodez_536 (b s : Nat) : xall (fun _ a => xBm a) 1 b s codez_536 := And.intro mobz_900 mobz_no
theorem mocodez_537 (b s : Nat) : xall (fun _ a => xBm a) 1 b s codez_537 := And.intro mobz_1924 mobz_no
theorem mocodez_538 (b s : Nat) : xall (fun _ a => xBm a) 2 b s codez_538 := And.intro (mocodez_536 b (2 * s)) (mocodez_537 (b + s) (2 * s))
theorem mocodez_539 (b s : Nat) : xall (fun _ a => xBm a) 3 b s codez_539 := And.intro (mocodez_535 b (2 * s)) (mocodez_538 (b + s) (2 * s))
theorem mocodez_540 (b s : Nat) : xall (fun _ a => xBm a) 4 b s codez_540 := And.intro (mocodez_532 b (2 * s)) (mocodez_539 (b + s) (2 * s))
theorem mocodez_541 (b s : Nat) : xall (fun _ a => xBm a) 5 b s codez_541 := And.intro (mocodez_525 b (2 * s)) (mocodez_540 (b + s) (2 * s))
theorem mocodez_542 (b s : Nat) : xall (fun _ a => xBm a) 1 b s codez_542 := And.intro mobz_68 mobz_2116
theorem mocodez_543 (b s : Nat) : xall (fun _ a => xBm a) 1 b s codez_543 := And.intro mobz_1092 mobz_no
theorem mocodez_544 (b s : Nat) : xall (fun _ a => xBm a) 2 b s codez_544 := And.intro (mocodez_542 b (2 * s)) (mocodez_543 (b + s) (2 * s))
theorem mocodez_545 (b s : Nat) : xall (fun _ a => xBm a) 1 b s codez_545 := And.intro mobz_580 mobz_no
theorem mocodez_546 (b s : Nat) : xall (fun _ a => xBm a) 1 b s codez_546 := And.intro mobz_1604 mobz_no
theorem mocodez_547 (b s : Nat) : xall (fun _ a => xBm a) 2 b s codez_547 := And.intro (mocodez_545 b (2 * s)) (mocodez_546 (b + s) (2 * s))
theorem mocodez_548 (b s : Nat) : xall (fun _ a => xBm a) 3 b s codez_548 := And.intro (mocodez_544 b (2 * s)) (mocodez_547 (b + s) (2 * s))
theorem mocodez_549 (b s : Nat) : xall (fun _ a => xBm a) 1 b s codez_549 := And.intro mobz_324 mobz_2372
theorem mocodez_550 (b s : Nat) : xall (fun _ a => xBm a) 1 b s codez_550 := And.intro mobz_1348 mobz_no
theorem mocodez_551 (b s : Nat) : xall (fun _ a => xBm a) 2 b s codez_551 := And.intro (mocodez_549 b (2 * s)) (mocodez_550 (b + s) (2 * s))
theorem mocodez_552 (b s : Nat) : xall (fun _ a => xBm a) 1 b s codez_552 := And.intro mobz_836 mobz_no
theorem mocodez_553 (b s : Nat) : xall (fun _ a => xBm a) 1 b s codez_553 := And.intro mobz_1860 mobz_no
theorem mocodez_554 (b s : Nat) : xall (fun _ a => xBm a) 2 b s codez_554 := And.intro (mocodez_552 b (2 * s)) (mocodez_553 (b + s) (2 * s))
theorem mocodez_555 (b s : Nat) : xall (fun _ a => xBm a) 3 b s codez_555 := And.intro (mocodez_551 b (2 * s)) (mocodez_554 (b + s) (2 * s))
theorem mocodez_556 (b s : Nat) : xall (fun _ a => xBm a) 4 b s codez_556 := And.intro (mocodez_548 b (2 * s)) (mocodez_555 (b + s) (2 * s))
theorem mocodez_557 (b s : Nat) : xall (fun _ a => xBm a) 1 b s codez_557 := And.intro mobz_196 mobz_2244
theorem mocodez_558 (b s : Nat) : xall (fun _ a => xBm a) 1 b s codez_558 := And.intro mobz_1220 mobz_no
theorem mocodez_559 (b s : Nat) : xall (fun _ a => xBm a) 2 b s codez_559 := And.intro (mocodez_557 b (2 * s)) (mocodez_558 (b + s) (2 * s))
theorem mocodez_560 (b s : Nat) : xall (fun _ a => xBm a) 1 b s codez_560 := And.intro mobz_708 mobz_no
theorem mocodez_561 (b s : Nat) : xall (fun _ a => xBm a) 1 b s codez_561 := And.intro mobz_1732 mobz_no
theorem mocodez_562 (b s : Nat) : xall (fun _ a => xBm a) 2 b s codez_562 := And.intro (mocodez_560 b (2 * s)) (mocodez_561 (b + s) (2 * s))
theorem mocodez_563 (b s : Nat) : xall (fun _ a => xBm a) 3 b s codez_563 := And.intro (mocodez_559 b (2 * s)) (mocodez_562 (b + s) (2 * s))
theorem mocodez_564 (b s : Nat) : xall (fun _ a => xBm a) 1 b s codez_564 := And.intro mobz_452 mobz_2500
theorem mocodez_565 (b s : Nat) : xall (fun _ a => xBm a) 1 b s codez_565 := And.intro mobz_1476 mobz_no
theorem mocodez_566 (b s : Nat) : xall (fun _ a => xBm a) 2 b s codez_566 := And.intro (mocodez_564 b (2 * s)) (mocodez_565 (b + s) (2 * s))
theorem mocodez_567 (b s : Nat) : xall (fun _ a => xBm a) 1 b s codez_567 := And.intro mobz_964 mobz_no
theorem mocodez_568 (b s : Nat) : xall (fun _ a => xBm a) 1 b s codez_568 := And.intro mobz_1988 mobz_no
theorem mocodez_569 (b s : Nat) : xall (fun _ a => xBm a) 2 b s codez_569 := And.intro (mocodez_567 b (2 * s)) (mocodez_568 (b + s) (2 * s))
theorem mocodez_570 (b s : Nat) : xall (fun _ a => xBm a) 3 b s codez_570 := And.intro (mocodez_566 b (2 * s)) (mocodez_569 (b + s) (2 * s))
theorem mocodez_571 (b s : Nat) : xall (fun _ a => xBm a) 4 b s codez_571 := And.intro (mocodez_563 b (2 * s)) (mocodez_570 (b + s) (2 * s))
theorem mocodez_572 (b s : Nat) : xall (fun _ a => xBm a) 5 b s codez_572 := And.intro (mocodez_556 b (2 * s)) (mocodez_571 (b + s) (2 * s))
theorem mocodez_573 (b s : Nat) : xall (fun _ a => xBm a) 6 b s codez_573 := And.intro (mocodez_541 b (2 * s)) (mocodez_572 (b + s) (2 * s))
theorem mocodez_574 (b s : Nat) : xall (fun _ a => xBm a) 1 b s codez_574 := And.intro mobz_36 mobz_2084
theorem mocodez_575 (b s : Nat) : xall (fun _ a => xBm a) 1 b s codez_575 := And.intro mobz_1060 mobz_no
theorem mocodez_576 (b s : Nat) : xall (fun _ a => xBm a) 2 b s codez_576 := And.intro (mocodez_574 b (2 * s)) (mocodez_575 (b + s) (2 * s))
theorem mocodez_577 (b s : Nat) : xall (fun _ a => xBm a) 1 b s codez_577 := And.intro mobz_548 mobz_no
theorem mocodez_578 (b s : Nat) : xall (fun _ a => xBm a) 1 b s codez_578 := And.intro mobz_1572 mobz_no
theorem mocodez_579 (b s : Nat) : xall (fun _ a => xBm a) 2 b s codez_579 := And.intro (mocodez_577 b (2 * s)) (mocodez_578 (b + s) (2 * s))
theorem mocodez_580 (b s : Nat) : xall (fun _ a => xBm a) 3 b s codez_580 := And.intro (mocodez_576 b (2 * s)) (mocodez_579 (b + s) (2 * s))
theorem mocodez_581 (b s : Nat) : xall (fun _ a => xBm a) 1 b s codez_581 := And.intro mobz_292 mobz_2340
theorem mocodez_582 (b s : Nat) : xall (fun _ a => xBm a) 1 b s codez_582 := And.intro mobz_1316 mobz_no
theorem mocodez_583 (b s : Nat) : xall (fun _ a => xBm a) 2 b s codez_583 := And.intro (mocodez_581 b (2 * s)) (mocodez_582 (b + s) (2 * s))
theorem mocodez_584 (b s : Nat) : xall (fun _ a => xBm a) 1 b s codez_584 := And.intro mobz_804 mobz_no
theorem mocodez_585 (b s : Nat) : xall (fun _ a => xBm a) 1 b s codez_585 := And.intro mobz_1828 mobz_no
theorem mocodez_586 (b s : Nat) : xall (fun _ a => xBm a) 2 b s codez_586 := And.intro (mocodez_584 b (2 * s)) (mocodez_585 (b + s) (2 * s))
theorem mocodez_587 (b s : Nat) : xall (fun _ a => xBm a) 3 b s codez_587 := And.intro (mocodez_583 b (2 * s)) (mocodez_586 (b + s) (2 * s))
theorem mocodez_588 (b s : Nat) : xall (fun _ a => xBm a) 4 b s codez_588 := And.intro (mocodez_580 b (2 * s)) (mocodez_587 (b + s) (2 * s))
theorem mocodez_589 (b s : Nat) : xall (fun _ a => xBm a) 1 b s codez_589 := And.intro mobz_164 mobz_2212
theorem mocodez_590 (b s : Nat) : xall (fun _ a => xBm a) 1 b s codez_590 := And.intro mobz_1188 mobz_no
theorem mocodez_591 (b s : Nat) : xall (fun _ a => xBm a) 2 b s codez_591 := And.intro (mocodez_589 b (2 * s)) (mocodez_590 (b + s) (2 * s))
theorem mocodez_592 (b s : Nat) : xall (fun _ a => xBm a) 1 b s codez_592 := And.intro mobz_676 mobz_no
theorem mocodez_593 (b s : Nat) : xall (fun _ a => xBm a) 1 b s codez_593 := And.intro mobz_1700 mobz_no
theorem mocodez_594 (b s : Nat) : xall (fun _ a => xBm a) 2 b s codez_594 := And.intro (mocodez_592 b (2 * s)) (mocodez_593 (b + s) (2 * s))
theorem mocodez_595 (b s : Nat) : xall (fun _ a => xBm a) 3 b s codez_595 := And.intro (mocodez_591 b (2 * s)) (mocodez_594 (b + s) (2 * s))
theorem mocodez_596 (b s : Nat) : xall (fun _ a => xBm a) 1 b s codez_596 := And.intro mobz_420 mobz_2468
theorem mocodez_597 (b s : Nat) : xall (fun _ a => xBm a) 1 b s codez_597 := And.intro mobz_1444 mobz_no
theorem mocodez_598 (b s : Nat) : xall (fun _ a => xBm a) 2 b s codez_598 := And.intro (mocodez_596 b (2 * s)) (mocodez_597 (b + s) (2 * s))
theorem mocodez_599 (b s : Nat) : xall (fun _ a => xBm a) 1 b s codez_599 := And.intro mobz_932 mobz_no
theorem mocodez_600 (b s : Nat) : xall (fun _ a => xBm a) 1 b s codez_600 := And.intro mobz_1956 mobz_no
theorem mocodez_601 (b s : Nat) : xall (fun _ a => xBm a) 2 b s codez_601 := And.intro (mocodez_599 b (2 * s)) (mocodez_600 (b + s) (2 * s))
theorem mocodez_602 (b s : Nat) : xall (fun _ a => xBm a) 3 b s codez_602 := And.intro (mocodez_598 b (2 * s)) (mocodez_601 (b + s) (2 * s))
theorem mocodez_603 (b s : Nat) : xall (fun _ a => xBm a) 4 b s codez_603 := And.intro (mocodez_595 b (2 * s)) (mocodez_602 (b + s) (2 * s))
theorem mocodez_604 (b s : Nat) : xall (fun _ a => xBm a) 5 b s codez_604 := And.intro (mocodez_588 b (2 * s)) (mocodez_603 (b + s) (2 * s))
theorem mocodez_605 (b s : Nat) : xall (fun _ a => xBm a) 1 b s codez_605 := And.intro mobz_100 mobz_2148
theorem mocodez_606 (b s : Nat) : xall (fun _ a => xBm a) 1 b s codez_606 := And.intro mobz_1124 mobz_no
theorem mocodez_607 (b s : Nat) : xall (fun _ a => xBm a) 2 b s codez_607 := And.intro (mocodez_605 b (2 * s)) (mocodez_606 (b + s) (2 * s))
theorem mocodez_608 (b s : Nat) : xall (fun _ a => xBm a) 1 b s codez_608 := And.intro mobz_612 mobz_no
theorem mocodez_609 (b s : Nat) : xall (fun _ a => xBm a) 1 b s codez_609 := And.intro mobz_1636 mobz_no
theorem mocodez_610 (b s : Nat) : xall (fun _ a => xBm a) 2 b s codez_610 := And.intro (mocodez_608 b (2 * s)) (mocodez_609 (b + s) (2 * s))
theorem mocodez_611 (b s : Nat) : xall (fun _ a => xBm a) 3 b s codez_611 := And.intro (mocodez_607 b (2 * s)) (mocodez_610 (b + s) (2 * s))
theorem mocodez_612 (b s : Nat) : xall (fun _ a => xBm a) 1 b s codez_612 := And.intro mobz_356 mobz_2404
theorem mocodez_613 (b s : Nat) : xall (fun _ a => xBm a) 1 b s codez_613 := And.intro mobz_1380 mobz_no
theorem mocodez_614 (b s : Nat) : xall (fun _ a => xBm a) 2 b s codez_614 := And.intro (mocodez_612 b (2 * s)) (mocodez_613 (b + s) (2 * s))
theorem mocodez_615 (b s : Nat) : xall (fun _ a => xBm a) 1 b s codez_615 := And.intro mobz_868 mobz_no
theorem mocodez_616 (b s : Nat) : xall (fun _ a => xBm a) 1 b s codez_616 := And.intro mobz_1892 mobz_no
theorem mocodez_617 (b s : Nat) : xall (fun _ a => xBm a) 2 b s codez_617 := And.intro (mocodez_615 b (2 * s)) (mocodez_616 (b + s) (2 * s))
theorem mocodez_618 (b s : Nat) : xall (fun _ a => xBm a) 3 b s codez_618 := And.intro (mocodez_614 b (2 * s)) (mocodez_617 (b + s) (2 * s))
theorem mocodez_619 (b s : Nat) : xall (fun _ a => xBm a) 4 b s codez_619 := And.intro (mocodez_611 b (2 * s)) (mocodez_618 (b + s) (2 * s))
theorem mocodez_620 (b s : Nat) : xall (fun _ a => xBm a) 1 b s codez_620 := And.intro mobz_228 mobz_2276
theorem mocodez_621 (b s : Nat) : xall (fun _ a => xBm a) 1 b s codez_621 := And.intro mobz_1252 mobz_no
theorem mocodez_622 (b s : Nat) : xall (fun _ a => xBm a) 2 b s codez_622 := And.intro (mocodez_620 b (2 * s)) (mocodez_621 (b + s) (2 * s))
theorem mocodez_623 (b s : Nat) : xall (fun _ a => xBm a) 1 b s codez_623 := And.intro mobz_740 mobz_no
theorem mocodez_624 (b s : Nat) : xall (fun _ a => xBm a) 1 b s codez_624 := And.intro mobz_1764 mobz_no
theorem mocodez_625 (b s : Nat) : xall (fun _ a => xBm a) 2 b s codez_625 := And.intro (mocodez_623 b (2 * s)) (mocodez_624 (b + s) (2 * s))
theorem mocodez_626 (b s : Nat) : xall (fun _ a => xBm a) 3 b s codez_626 := And.intro (mocodez_622 b (2 * s)) (mocodez_625 (b + s) (2 * s))
theorem mocodez_627 (b s : Nat) : xall (fun _ a => xBm a) 1 b s codez_627 := And.intro mobz_484 mobz_2532
theorem mocodez_628 (b s : Nat) : xall (fun _ a => xBm a) 1 b s codez_628 := And.intro mobz_1508 mobz_no
theorem mocodez_629 (b s : Nat) : xall (fun _ a => xBm a) 2 b s codez_629 := And.intro (mocodez_627 b (2 * s)) (mocodez_628 (b + s) (2 * s))
theorem mocodez_630 (b s : Nat) : xall (fun _ a => xBm a) 1 b s codez_630 := And.intro mobz_996 mobz_no
theorem mocodez_631 (b s : Nat) : xall (fun _ a => xBm a) 1 b s codez_631 := And.intro mobz_2020 mobz_no
theorem mocodez_632 (b s : Nat) : xall (fun _ a => xBm a) 2 b s codez_632 := And.intro (mocodez_630 b (2 * s)) (mocodez_631 (b + s) (2 * s))
theorem mocodez_633 (b s : Nat) : xall (fun _ a => xBm a) 3 b s codez_633 := And.intro (mocodez_629 b (2 * s)) (mocodez_632 (b + s) (2 * s))
theorem mocodez_634 (b s : Nat) : xall (fun _ a => xBm a) 4 b s codez_634 := And.intro (mocodez_626 b (2 * s)) (mocodez_633 (b + s) (2 * s))
theorem mocodez_635 (b s : Nat) : xall (fun _ a => xBm a) 5 b s codez_635 := And.intro (mocodez_619 b (2 * s)) (mocodez_634 (b + s) (2 * s))
theorem mocodez_636 (b s : Nat) : xall (fun _ a => xBm a) 6 b s codez_636 := And.intro (mocodez_604 b (2 * s)) (mocodez_635 (b + s) (2 * s))
theorem mocodez_637 (b s : Nat) : xall (fun _ a => xBm a) 7 b s codez_637 := And.intro (mocodez_573 b (2 * s)) (mocodez_636 (b + s) (2 * s))
theorem mocodez_638 (b s : Nat) : xall (fun _ a => xBm a) 1 b s codez_638 := And.intro mobz_20 mobz_2068
theorem mocodez_639 (b s : Nat) : xall (fun _ a => xBm a) 1 b s codez_639 := And.intro mobz_1044 mobz_no
theorem mocodez_640 (b s : Nat) : xall (fun _ a => xBm a) 2 b s codez_640 := And.intro (mocodez_638 b (2 * s)) (mocodez_639 (b + s) (2 * s))
theorem mocodez_641 (b s : Nat) : xall (fun _ a => xBm a) 1 b s codez_641 := And.intro mobz_532 mobz_no
theorem mocodez_642 (b s : Nat) : xall (fun _ a => xBm a) 1 b s codez_642 := And.intro mobz_1556 mobz_no
theorem mocodez_643 (b s : Nat) : xall (fun _ a => xBm a) 2 b s codez_643 := And.intro (mocodez_641 b (2 * s)) (mocodez_642 (b + s) (2 * s))
theorem mocodez_644 (b s : Nat) : xall (fun _ a => xBm a) 3 b s codez_644 := And.intro (mocodez_640 b (2 * s)) (mocodez_643 (b + s) (2 * s))
theorem mocodez_645 (b s : Nat) : xall (fun _ a => xBm a) 1 b s codez_645 := And.intro mobz_276 mobz_2324
theorem mocodez_646 (b s : Nat) : xall (fun _ a => xBm a) 1 b s codez_646 := And.intro mobz_1300 mobz_no
theorem mocodez_647 (b s : Nat) : xall (fun _ a => xBm a) 2 b s codez_647 := And.intro (mocodez_645 b (2 * s)) (mocodez_646 (b + s) (2 * s))
theorem mocodez_648 (b s : Nat) : xall (fun _ a => xBm a) 1 b s codez_648 := And.intro mobz_788 mobz_no
theorem mocodez_649 (b s : Nat) : xall (fun _ a => xBm a) 1 b s codez_649 := And.intro mobz_1812 mobz_no
theorem mocodez_650 (b s : Nat) : xall (fun _ a => xBm a) 2 b s codez_650 := And.intro (mocodez_648 b (2 * s)) (mocodez_649 (b + s) (2 * s))
theorem mocodez_651 (b s : Nat) : xall (fun _ a => xBm a) 3 b s codez_651 := And.intro (mocodez_647 b (2 * s)) (mocodez_650 (b + s) (2 * s))
theorem mocodez_652 (b s : Nat) : xall (fun _ a => xBm a) 4 b s codez_652 := And.intro (mocodez_644 b (2 * s)) (mocodez_651 (b + s) (2 * s))
theorem mocodez_653 (b s : Nat) : xall (fun _ a => xBm a) 1 b s codez_653 := And.intro mobz_148 mobz_2196
theorem mocodez_654 (b s : Nat) : xall (fun _ a => xBm a) 1 b s codez_654 := And.intro mobz_1172 mobz_no
theorem mocodez_655 (b s : Nat) : xall (fun _ a => xBm a) 2 b s codez_655 := And.intro (mocodez_653 b (2 * s)) (mocodez_654 (b + s) (2 * s))
theorem mocodez_656 (b s : Nat) : xall (fun _ a => xBm a) 1 b s codez_656 := And.intro mobz_660 mobz_no
theorem mocodez_657 (b s : Nat) : xall (fun _ a => xBm a) 1 b s codez_657 := And.intro mobz_1684 mobz_no
theorem mocodez_658 (b s : Nat) : xall (fun _ a => xBm a) 2 b s codez_658 := And.intro (mocodez_656 b (2 * s)) (mocodez_657 (b + s) (2 * s))
theorem mocodez_659 (b s : Nat) : xall (fun _ a => xBm a) 3 b s codez_659 := And.intro (mocodez_655 b (2 * s)) (mocodez_658 (b + s) (2 * s))
theorem mocodez_660 (b s : Nat) : xall (fun _ a => xBm a) 1 b s codez_660 := And.intro mobz_404 mobz_2452
theorem mocodez_661 (b s : Nat) : xall (fun _ a => xBm a) 1 b s codez_661 := And.intro mobz_1428 mobz_no
theorem mocodez_662 (b s : Nat) : xall (fun _ a => xBm a) 2 b s codez_662 := And.intro (mocodez_660 b (2 * s)) (mocodez_661 (b + s) (2 * s))
theorem mocodez_663 (b s : Nat) : xall (fun _ a => xBm a) 1 b s codez_663 := And.intro mobz_916 mobz_no
theorem mocodez_664 (b s : Nat) : xall (fun _ a => xBm a) 1 b s codez_664 := And.intro mobz_1940 mobz_no
theorem mocodez_665 (b s : Nat) : xall (fun _ a => xBm a) 2 b s codez_665 := And.intro (mocodez_663 b (2 * s)) (mocodez_664 (b + s) (2 * s))
theorem mocodez_666 (b s : Nat) : xall (fun _ a => xBm a) 3 b s codez_666 := And.intro (mocodez_662 b (2 * s)) (mocodez_665 (b + s) (2 * s))
theorem mocodez_667 (b s : Nat) : xall (fun _ a => xBm a) 4 b s codez_667 := And.intro (mocodez_659 b (2 * s)) (mocodez_666 (b + s) (2 * s))
theorem mocodez_668 (b s : Nat) : xall (fun _ a => xBm a) 5 b s codez_668 := And.intro (mocodez_652 b (2 * s)) (mocodez_667 (b + s) (2 * s))
theorem mocodez_669 (b s : Nat) : xall (fun _ a => xBm a) 1 b s codez_669 := And.intro mobz_84 mobz_2132
theorem mocodez_670 (b s : Nat) : xall (fun _ a => xBm a) 1 b s codez_670 := And.intro mobz_1108 mobz_no
theorem mocodez_671 (b s : Nat) : xall (fun _ a => xBm a) 2 b s codez_671 := And.intro (mocodez_669 b (2 * s)) (mocodez_670 (b + s) (2 * s))
theorem mocodez_672 (b s : Nat) : xall (fun _ a => xBm a) 1 b s codez_672 := And.intro mobz_596 mobz_no
theorem mocodez_673 (b s : Nat) : xall (fun _ a => xBm a) 1 b s codez_673 := And.intro mobz_1620 mobz_no
theorem mocodez_674 (b s : Nat) : xall (fun _ a => xBm a) 2 b s codez_674 := And.intro (mocodez_672 b (2 * s)) (mocodez_673 (b + s) (2 * s))
theorem mocodez_675 (b s : Nat) : xall (fun _ a => xBm a) 3 b s codez_675 := And.intro (mocodez_671 b (2 * s)) (mocodez_674 (b + s) (2 * s))
theorem mocodez_676 (b s : Nat) : xall (fun _ a => xBm a) 1 b s codez_676 := And.intro mobz_340 mobz_2388
theorem mocodez_677 (b s : Nat) : xall (fun _ a => xBm a) 1 b s codez_677 := And.intro mobz_1364 mobz_no
theorem mocodez_678 (b s : Nat) : xall (fun _ a => xBm a) 2 b s codez_678 := And.intro (mocodez_676 b (2 * s)) (mocodez_677 (b + s) (2 * s))
theorem mocodez_679 (b s : Nat) : xall (fun _ a => xBm a) 1 b s codez_679 := And.intro mobz_852 mobz_no
theorem mocodez_680 (b s : Nat) : xall (fun _ a => xBm a) 1 b s codez_680 := And.intro mobz_1876 mobz_no
theorem mocodez_681 (b s : Nat) : xall (fun _ a => xBm a) 2 b s codez_681 := And.intro (mocodez_679 b (2 * s)) (mocodez_680 (b + s) (2 * s))
theorem mocodez_682 (b s : Nat) : xall (fun _ a => xBm a) 3 b s codez_682 := And.intro (mocodez_678 b (2 * s)) (mocodez_681 (b + s) (2 * s))
theorem mocodez_683 (b s : Nat) : xall (fun _ a => xBm a) 4 b s codez_683 := And.intro (mocodez_675 b (2 * s)) (mocodez_682 (b + s) (2 * s))
theorem mocodez_684 (b s : Nat) : xall (fun _ a => xBm a) 1 b s codez_684 := And.intro mobz_212 mobz_2260
theorem mocodez_685 (b s : Nat) : xall (fun _ a => xBm a) 1 b s codez_685 := And.intro mobz_1236 mobz_no
theorem mocodez_686 (b s : Nat) : xall (fun _ a => xBm a) 2 b s codez_686 := And.intro (mocodez_684 b (2 * s)) (mocodez_685 (b + s) (2 * s))
theorem mocodez_687 (b s : Nat) : xall (fun _ a => xBm a) 1 b s codez_687 := And.intro mobz_724 mobz_no
theorem mocodez_688 (b s : Nat) : xall (fun _ a => xBm a) 1 b s codez_688 := And.intro mobz_1748 mobz_no
theorem mocodez_689 (b s : Nat) : xall (fun _ a => xBm a) 2 b s codez_689 := And.intro (mocodez_687 b (2 * s)) (mocodez_688 (b + s) (2 * s))
theorem mocodez_690 (b s : Nat) : xall (fun _ a => xBm a) 3 b s codez_690 := And.intro (mocodez_686 b (2 * s)) (mocodez_689 (b + s) (2 * s))
theorem mocodez_691 (b s : Nat) : xall (fun _ a => xBm a) 1 b s codez_691 := And.intro mobz_468 mobz_2516
theorem mocodez_692 (b s : Nat) : xall (fun _ a => xBm a) 1 b s codez_692 := And.intro mobz_1492 mobz_no
theorem mocodez_693 (b s : Nat) : xall (fun _ a => xBm a) 2 b s codez_693 := And.intro (mocodez_691 b (2 * s)) (mocodez_692 (b + s) (2 * s))
theorem mocodez_694 (b s : Nat) : xall (fun _ a => xBm a) 1 b s codez_694 := And.intro mobz_980 mobz_no
theorem mocodez_695 (b s : Nat) : xall (fun _ a => xBm a) 1 b s codez_695 := And.intro mobz_2004 mobz_no
theorem mocodez_696 (b s : Nat) : xall (fun _ a => xBm a) 2 b s codez_696 := And.intro (mocodez_694 b (2 * s)) (mocodez_695 (b + s) (2 * s))
theorem mocodez_697 (b s : Nat) : xall (fun _ a => xBm a) 3 b s codez_697 := And.intro (mocodez_693 b (2 * s)) (mocodez_696 (b + s) (2 * s))
theorem mocodez_698 (b s : Nat) : xall (fun _ a => xBm a) 4 b s codez_698 := And.intro (mocodez_690 b (2 * s)) (mocodez_697 (b + s) (2 * s))
theorem mocodez_699 (b s : Nat) : xall (fun _ a => xBm a) 5 b s codez_699 := And.intro (mocodez_683 b (2 * s)) (mocodez_698 (b + s) (2 * s))
theorem mocodez_700 (b s : Nat) : xall (fun _ a => xBm a) 6 b s codez_700 := And.intro (mocodez_668 b (2 * s)) (mocodez_699 (b + s) (2 * s))
theorem mocodez_701 (b s : Nat) : xall (fun _ a => xBm a) 1 b s codez_701 := And.intro mobz_52 mobz_2100
theorem mocodez_702 (b s : Nat) : xall (fun _ a => xBm a) 1 b s codez_702 := And.intro mobz_1076 mobz_no
theorem mocodez_703 (b s : Nat) : xall (fun _ a => xBm a) 2 b s codez_703 := And.intro (mocodez_701 b (2 * s)) (mocodez_702 (b + s) (2 * s))
theorem mocodez_704 (b s : Nat) : xall (fun _ a => xBm a) 1 b s codez_704 := And.intro mobz_564 mobz_no
theorem mocodez_705 (b s : Nat) : xall (fun _ a => xBm a) 1 b s codez_705 := And.intro mobz_1588 mobz_no
theorem mocodez_706 (b s : Nat) : xall (fun _ a => xBm a) 2 b s codez_706 := And.intro (mocodez_704 b (2 * s)) (mocodez_705 (b + s) (2 * s))
theorem mocodez_707 (b s : Nat) : xall (fun _ a => xBm a) 3 b s codez_707 := And.intro (mocodez_703 b (2 * s)) (mocodez_706 (b + s) (2 * s))
theorem mocodez_708 (b s : Nat) : xall (fun _ a => xBm a) 1 b s codez_708 := And.intro mobz_308 mobz_2356
theorem mocodez_709 (b s : Nat) : xall (fun _ a => xBm a) 1 b s codez_709 := And.intro mobz_1332 mobz_no
theorem mocodez_710 (b s : Nat) : xall (fun _ a => xBm a) 2 b s codez_710 := And.intro (mocodez_708 b (2 * s)) (mocodez_709 (b + s) (2 * s))
theorem mocodez_711 (b s : Nat) : xall (fun _ a => xBm a) 1 b s codez_711 := And.intro mobz_820 mobz_no
theorem mocodez_712 (b s : Nat) : xall (fun _ a => xBm a) 1 b s codez_712 := And.intro mobz_1844 mobz_no
theorem mocodez_713 (b s : Nat) : xall (fun _ a => xBm a) 2 b s codez_713 := And.intro (mocodez_711 b (2 * s)) (mocodez_712 (b + s) (2 * s))
theorem mocodez_714 (b s : Nat) : xall (fun _ a => xBm a) 3 b s codez_714 := And.intro (mocodez_710 b (2 * s)) (mocodez_713 (b + s) (2 * s))
theorem mocodez_715 (b s : Nat) : xall (fun _ a => xBm a) 4 b s codez_715 := And.intro (mocodez_707 b (2 * s)) (mocodez_714 (b + s) (2 * s))
theorem mocodez_716 (b s : Nat) : xall (fun _ a => xBm a) 1 b s codez_716 := And.intro mobz_180 mobz_2228
theorem mocodez_717 (b s : Nat) : xall (fun _ a => xBm a) 1 b s codez_717 := And.intro mobz_1204 mobz_no
theorem mocodez_718 (b s : Nat) : xall (fun _ a => xBm a) 2 b s codez_718 := And.intro (mocodez_716 b (2 * s)) (mocodez_717 (b + s) (2 * s))
theorem mocodez_719 (b s : Nat) : xall (fun _ a => xBm a) 1 b s codez_719 := And.intro mobz_692 mobz_no
theorem mocodez_720 (b s : Nat) : xall (fun _ a => xBm a) 1 b s codez_720 := And.intro mobz_1716 mobz_no
theorem mocodez_721 (b s : Nat) : xall (fun _ a => xBm a) 2 b s codez_721 := And.intro (mocodez_719 b (2 * s)) (mocodez_720 (b + s) (2 * s))
theorem mocodez_722 (b s : Nat) : xall (fun _ a => xBm a) 3 b s codez_722 := And.intro (mocodez_718 b (2 * s)) (mocodez_721 (b + s) (2 * s))
theorem mocodez_723 (b s : Nat) : xall (fun _ a => xBm a) 1 b s codez_723 := And.intro mobz_436 mobz_2484
theorem mocodez_724 (b s : Nat) : xall (fun _ a => xBm a) 1 b s codez_724 := And.intro mobz_1460 mobz_no
theorem mocodez_725 (b s : Nat) : xall (fun _ a => xBm a) 2 b s codez_725 := And.intro (mocodez_723 b (2 * s)) (mocodez_724 (b + s) (2 * s))
theorem mocodez_726 (b s : Nat) : xall (fun _ a => xBm a) 1 b s codez_726 := And.intro mobz_948 mobz_no
theorem mocodez_727 (b s : Nat) : xall (fun _ a => xBm a) 1 b s codez_727 := And.intro mobz_1972 mobz_no
theorem mocodez_728 (b s : Nat) : xall (fun _ a => xBm a) 2 b s codez_728 := And.intro (mocodez_726 b (2 * s)) (mocodez_727 (b + s) (2 * s))
theorem mocodez_729 (b s : Nat) : xall (fun _ a => xBm a) 3 b s codez_729 := And.intro (mocodez_725 b (2 * s)) (mocodez_728 (b + s) (2 * s))
theorem mocodez_730 (b s : Nat) : xall (fun _ a => xBm a) 4 b s codez_730 := And.intro (mocodez_722 b (2 * s)) (mocodez_729 (b + s) (2 * s))
theorem mocodez_731 (b s : Nat) : xall (fun _ a => xBm a) 5 b s codez_731 := And.intro (mocodez_715 b (2 * s)) (mocodez_730 (b + s) (2 * s))
theorem mocodez_732 (b s : Nat) : xall (fun _ a => xBm a) 1 b s codez_732 := And.intro mobz_116 mobz_2164
theorem mocodez_733 (b s : Nat) : xall (fun _ a => xBm a) 1 b s codez_733 := And.intro mobz_1140 mobz_no
theorem mocodez_734 (b s : Nat) : xall (fun _ a => xBm a) 2 b s codez_734 := And.intro (mocodez_732 b (2 * s)) (mocodez_733 (b + s) (2 * s))
theorem mocodez_735 (b s : Nat) : xall (fun _ a => xBm a) 1 b s codez_735 := And.intro mobz_628 mobz_no
theorem mocodez_736 (b s : Nat) : xall (fun _ a => xBm a) 1 b s codez_736 := And.intro mobz_1652 mobz_no
theorem mocodez_737 (b s : Nat) : xall (fun _ a => xBm a) 2 b s codez_737 := And.intro (mocodez_735 b (2 * s)) (mocodez_736 (b + s) (2 * s))
theorem mocodez_738 (b s : Nat) : xall (fun _ a => xBm a) 3 b s codez_738 := And.intro (mocodez_734 b (2 * s)) (mocodez_737 (b + s) (2 * s))
theorem mocodez_739 (b s : Nat) : xall (fun _ a => xBm a) 1 b s codez_739 := And.intro mobz_372 mobz_2420
theorem mocodez_740 (b s : Nat) : xall (fun _ a => xBm a) 1 b s codez_740 := And.intro mobz_1396 mobz_no
theorem mocodez_741 (b s : Nat) : xall (fun _ a => xBm a) 2 b s codez_741 := And.intro (mocodez_739 b (2 * s)) (mocodez_740 (b + s) (2 * s))
theorem mocodez_742 (b s : Nat) : xall (fun _ a => xBm a) 1 b s codez_742 := And.intro mobz_884 mobz_no
theorem mocodez_743 (b s : Nat) : xall (fun _ a => xBm a) 1 b s codez_743 := And.intro mobz_1908 mobz_no
theorem mocodez_744 (b s : Nat) : xall (fun _ a => xBm a) 2 b s codez_744 := And.intro (mocodez_742 b (2 * s)) (mocodez_743 (b + s) (2 * s))
theorem mocodez_745 (b s : Nat) : xall (fun _ a => xBm a) 3 b s codez_745 := And.intro (mocodez_741 b (2 * s)) (mocodez_744 (b + s) (2 * s))
theorem mocodez_746 (b s : Nat) : xall (fun _ a => xBm a) 4 b s codez_746 := And.intro (mocodez_738 b (2 * s)) (mocodez_745 (b + s) (2 * s))
theorem mocodez_747 (b s : Nat) : xall (fun _ a => xBm a) 1 b s codez_747 := And.intro mobz_244 mobz_2292
theorem mocodez_748 (b s : Nat) : xall (fun _ a => xBm a) 1 b s codez_748 := And.intro mobz_1268 mobz_no
theorem mocodez_749 (b s : Nat) : xall (fun _ a => xBm a) 2 b s codez_749 := And.intro (mocodez_747 b (2 * s)) (mocodez_748 (b + s) (2 * s))
theorem mocodez_750 (b s : Nat) : xall (fun _ a => xBm a) 1 b s codez_750 := And.intro mobz_756 mobz_no
theorem mocodez_751 (b s : Nat) : xall (fun _ a => xBm a) 1 b s codez_751 := And.intro mobz_1780 mobz_no
theorem mocodez_752 (b s : Nat) : xall (fun _ a => xBm a) 2 b s codez_752 := And.intro (mocodez_750 b (2 * s)) (mocodez_751 (b + s) (2 * s))
theorem mocodez_753 (b s : Nat) : xall (fun _ a => xBm a) 3 b s codez_753 := And.intro (mocodez_749 b (2 * s)) (mocodez_752 (b + s) (2 * s))
theorem mocodez_754 (b s : Nat) : xall (fun _ a => xBm a) 1 b s codez_754 := And.intro mobz_500 mobz_no
theorem mocodez_755 (b s : Nat) : xall (fun _ a => xBm a) 1 b s codez_755 := And.intro mobz_1524 mobz_no
theorem mocodez_756 (b s : Nat) : xall (fun _ a => xBm a) 2 b s codez_756 := And.intro (mocodez_754 b (2 * s)) (mocodez_755 (b + s) (2 * s))
theorem mocodez_757 (b s : Nat) : xall (fun _ a => xBm a) 1 b s codez_757 := And.intro mobz_1012 mobz_no
theorem mocodez_758 (b s : Nat) : xall (fun _ a => xBm a) 1 b s codez_758 := And.intro mobz_2036 mobz_no
theorem mocodez_759 (b s : Nat) : xall (fun _ a => xBm a) 2 b s codez_759 := And.intro (mocodez_757 b (2 * s)) (mocodez_758 (b + s) (2 * s))
theorem mocodez_760 (b s : Nat) : xall (fun _ a => xBm a) 3 b s codez_760 := And.intro (mocodez_756 b (2 * s)) (mocodez_759 (b + s) (2 * s))
theorem mocodez_761 (b s : Nat) : xall (fun _ a => xBm a) 4 b s codez_761 := And.intro (mocodez_753 b (2 * s)) (mocodez_760 (b + s) (2 * s))
theorem mocodez_762 (b s : Nat) : xall (fun _ a => xBm a) 5 b s codez_762 := And.intro (mocodez_746 b (2 * s)) (mocodez_761 (b + s) (2 * s))
theorem mocodez_763 (b s : Nat) : xall (fun _ a => xBm a) 6 b s codez_763 := And.intro (mocodez_731 b (2 * s)) (mocodez_762 (b + s) (2 * s))
theorem mocodez_764 (b s : Nat) : xall (fun _ a => xBm a) 7 b s codez_764 := And.intro (mocodez_700 b (2 * s)) (mocodez_763 (b + s) (2 * s))
theorem mocodez_765 (b s : Nat) : xall (fun _ a => xBm a) 8 b s codez_765 := And.intro (mocodez_637 b (2 * s)) (mocodez_764 (b + s) (2 * s))
theorem mocodez_766 (b s : Nat) : xall (fun _ a => xBm a) 1 b s codez_766 := And.intro mobz_12 mobz_2060
theorem mocodez_767 (b s : Nat) : xall (fun _ a => xBm a) 1 b s codez_767 := And.intro mobz_1036 mobz_no
theorem mocodez_768 (b s : Nat) : xall (fun _ a => xBm a) 2 b s codez_768 := And.intro (mocodez_766 b (2 * s)) (mocodez_767 (b + s) (2 * s))
theorem mocodez_769 (b s : Nat) : xall (fun _ a => xBm a) 1 b s codez_769 := And.intro mobz_524 mobz_no
theorem mocodez_770 (b s : Nat) : xall (fun _ a => xBm a) 1 b s codez_770 := And.intro mobz_1548 mobz_no
theorem mocodez_771 (b s : Nat) : xall (fun _ a => xBm a) 2 b s codez_771 := And.intro (mocodez_769 b (2 * s)) (mocodez_770 (b + s) (2 * s))
theorem mocodez_772 (b s : Nat) : xall (fun _ a => xBm a) 3 b s codez_772 := And.intro (mocodez_768 b (2 * s)) (mocodez_771 (b + s) (2 * s))
theorem mocodez_773 (b s : Nat) : xall (fun _ a => xBm a) 1 b s codez_773 := And.intro mobz_268 mobz_2316
theorem mocodez_774 (b s : Nat) : xall (fun _ a => xBm a) 1 b s codez_774 := And.intro mobz_1292 mobz_no
theorem mocodez_775 (b s : Nat) : xall (fun _ a => xBm a) 2 b s codez_775 := And.intro (mocodez_773 b (2 * s)) (mocodez_774 (b + s) (2 * s))
theorem mocodez_776 (b s : Nat) : xall (fun _ a => xBm a) 1 b s codez_776 := And.intro mobz_780 mobz_no
theorem mocodez_777 (b s : Nat) : xall (fun _ a => xBm a) 1 b s codez_777 := And.intro mobz_1804 mobz_no
theorem mocodez_778 (b s : Nat) : xall (fun _ a => xBm a) 2 b s codez_778 := And.intro (mocodez_776 b (2 * s)) (mocodez_777 (b + s) (2 * s))
theorem mocodez_779 (b s : Nat) : xall (fun _ a => xBm a) 3 b s codez_779 := And.intro (mocodez_775 b (2 * s)) (mocodez_778 (b + s) (2 * s))
theorem mocodez_780 (b s : Nat) : xall (fun _ a => xBm a) 4 b s codez_780 := And.intro (mocodez_772 b (2 * s)) (mocodez_779 (b + s) (2 * s))
theorem mocodez_781 (b s : Nat) : xall (fun _ a => xBm a) 1 b s codez_781 := And.intro mobz_140 mobz_2188
theorem mocodez_782 (b s : Nat) : xall (fun _ a => xBm a) 1 b s codez_782 := And.intro mobz_1164 mobz_no
theorem mocodez_783 (b s : Nat) : xall (fun _ a => xBm a) 2 b s codez_783 := And.intro (mocodez_781 b (2 * s)) (mocodez_782 (b + s) (2 * s))
theorem mocodez_784 (b s : Nat) : xall (fun _ a => xBm a) 1 b s codez_784 := And.intro mobz_652 mobz_no
theorem mocodez_785 (b s : Nat) : xall (fun _ a => xBm a) 1 b s codez_785 := And.intro mobz_1676 mobz_no
theorem mocodez_786 (b s : Nat) : xall (fun _ a => xBm a) 2 b s codez_786 := And.intro (mocodez_784 b (2 * s)) (mocodez_785 (b + s) (2 * s))
theorem mocodez_787 (b s : Nat) : xall (fun _ a => xBm a) 3 b s codez_787 := And.intro (mocodez_783 b (2 * s)) (mocodez_786 (b + s) (2 * s))
theorem mocodez_788 (b s : Nat) : xall (fun _ a => xBm a) 1 b s codez_788 := And.intro mobz_396 mobz_2444
theorem mocodez_789 (b s : Nat) : xall (fun _ a => xBm a) 1 b s codez_789 := And.intro mobz_1420 mobz_no
theorem mocodez_790 (b s : Nat) : xall (fun _ a => xBm a) 2 b s codez_790 := And.intro (mocodez_788 b (2 * s)) (mocodez_789 (b + s) (2 * s))
theorem mocodez_791 (b s : Nat) : xall (fun _ a => xBm a) 1 b s codez_791 := And.intro mobz_908 mobz_no
theorem mocodez_792 (b s : Nat) : xall (fun _ a => xBm a) 1 b s codez_792 := And.intro mobz_1932 mobz_no
theorem mocodez_793 (b s : Nat) : xall (fun _ a => xBm a) 2 b s codez_793 := And.intro (mocodez_791 b (2 * s)) (mocodez_792 (b + s) (2 * s))
theorem mocodez_794 (b s : Nat) : xall (fun _ a => xBm a) 3 b s codez_794 := And.intro (mocodez_790 b (2 * s)) (mocodez_793 (b + s) (2 * s))
theorem mocodez_795 (b s : Nat) : xall (fun _ a => xBm a) 4 b s codez_795 := And.intro (mocodez_787 b (2 * s)) (mocodez_794 (b + s) (2 * s))
theorem mocodez_796 (b s : Nat) : xall (fun _ a => xBm a) 5 b s codez_796 := And.intro (mocodez_780 b (2 * s)) (mocodez_795 (b + s) (2 * s))
theorem mocodez_797 (b s : Nat) : xall (fun _ a => xBm a) 1 b s codez_797 := And.intro mobz_76 mobz_2124
theorem mocodez_798 (b s : Nat) : xall (fun _ a => xBm a) 1 b s codez_798 := And.intro mobz_1100 mobz_no
theorem mocodez_799 (b s : Nat) : xall (fun _ a => xBm a) 2 b s codez_799 := And.intro (mocodez_797 b (2 * s)) (mocodez_798 (b + s) (2 * s))
theorem mocodez_800 (b s : Nat) : xall (fun _ a => xBm a) 1 b s codez_800 := And.intro mobz_588 mobz_no
theorem mocodez_801 (b s : Nat) : xall (fun _ a => xBm a) 1 b s codez_801 := And.intro mobz_1612 mobz_no
theorem mocodez_802 (b s : Nat) : xall (fun _ a => xBm a) 2 b s codez_802 := And.intro (mocodez_800 b (2 * s)) (mocodez_801 (b + s) (2 * s))
theorem mocodez_803 (b s : Nat) : xall (fun _ a => xBm a) 3 b s codez_803 := And.intro (mocodez_799 b (2 * s)) (mocodez_802 (b + s) (2 * s))
theorem mocodez_804 (b s : Nat) : xall (fun _ a => xBm a) 1 b s codez_804 := And.intro mobz_332 mobz_2380
theorem mocodez_805 (b s : Nat) : xall (fun _ a => xBm a) 1 b s codez_805 := And.intro mobz_1356 mobz_no
theorem mocodez_806 (b s : Nat) : xall (fun _ a => xBm a) 2 b s codez_806 := And.intro (mocodez_804 b (2 * s)) (mocodez_805 (b + s) (2 * s))
theorem mocodez_807 (b s : Nat) : xall (fun _ a => xBm a) 1 b s codez_807 := And.intro mobz_844 mobz_no
theorem mocodez_808 (b s : Nat) : xall (fun _ a => xBm a) 1 b s codez_808 := And.intro mobz_1868 mobz_no
theorem mocodez_809 (b s : Nat) : xall (fun _ a => xBm a) 2 b s codez_809 := And.intro (mocodez_807 b (2 * s)) (mocodez_808 (b + s) (2 * s))
theorem mocodez_810 (b s : Nat) : xall (fun _ a => xBm a) 3 b s codez_810 := And.intro (mocodez_806 b (2 * s)) (mocodez_809 (b + s) (2 * s))
theorem mocodez_811 (b s : Nat) : xall (fun _ a => xBm a) 4 b s codez_811 := And.intro (mocodez_803 b (2 * s)) (mocodez_810 (b + s) (2 * s))
theorem mocodez_812 (b s : Nat) : xall (fun _ a => xBm a) 1 b s codez_812 := And.intro mobz_204 mobz_2252
theorem mocodez_813 (b s : Nat) : xall (fun _ a => xBm a) 1 b s codez_813 := And.intro mobz_1228 mobz_no
theorem mocodez_814 (b s : Nat) : xall (fun _ a => xBm a) 2 b s codez_814 := And.intro (mocodez_812 b (2 * s)) (mocodez_813 (b + s) (2 * s))
theorem mocodez_815 (b s : Nat) : xall (fun _ a => xBm a) 1 b s codez_815 := And.intro mobz_716 mobz_no
theorem mocodez_816 (b s : Nat) : xall (fun _ a => xBm a) 1 b s codez_816 := And.intro mobz_1740 mobz_no
theorem mocodez_817 (b s : Nat) : xall (fun _ a => xBm a) 2 b s codez_817 := And.intro (mocodez_815 b (2 * s)) (mocodez_816 (b + s) (2 * s))
theorem mocodez_818 (b s : Nat) : xall (fun _ a => xBm a) 3 b s codez_818 := And.intro (mocodez_814 b (2 * s)) (mocodez_817 (b + s) (2 * s))
theorem mocodez_819 (b s : Nat) : xall (fun _ a => xBm a) 1 b s codez_819 := And.intro mobz_460 mobz_2508
theorem mocodez_820 (b s : Nat) : xall (fun _ a => xBm a) 1 b s codez_820 := And.intro mobz_1484 mobz_no
theorem mocodez_821 (b s : Nat) : xall (fun _ a => xBm a) 2 b s codez_821 := And.intro (mocodez_819 b (2 * s)) (mocodez_820 (b + s) (2 * s))
theorem mocodez_822 (b s : Nat) : xall (fun _ a => xBm a) 1 b s codez_822 := And.intro mobz_972 mobz_no
theorem mocodez_823 (b s : Nat) : xall (fun _ a => xBm a) 1 b s codez_823 := And.intro mobz_1996 mobz_no
theorem mocodez_824 (b s : Nat) : xall (fun _ a => xBm a) 2 b s codez_824 := And.intro (mocodez_822 b (2 * s)) (mocodez_823 (b + s) (2 * s))
theorem mocodez_825 (b s : Nat) : xall (fun _ a => xBm a) 3 b s codez_825 := And.intro (mocodez_821 b (2 * s)) (mocodez_824 (b + s) (2 * s))
theorem mocodez_826 (b s : Nat) : xall (fun _ a => xBm a) 4 b s codez_826 := And.intro (mocodez_818 b (2 * s)) (mocodez_825 (b + s) (2 * s))
theorem mocodez_827 (b s : Nat) : xall (fun _ a => xBm a) 5 b s codez_827 := And.intro (mocodez_811 b (2 * s)) (mocodez_826 (b + s) (2 * s))
theorem mocodez_828 (b s : Nat) : xall (fun _ a => xBm a) 6 b s codez_828 := And.intro (mocodez_796 b (2 * s)) (mocodez_827 (b + s) (2 * s))
theorem mocodez_829 (b s : Nat) : xall (fun _ a => xBm a) 1 b s codez_829 := And.intro mobz_44 mobz_2092
theorem mocodez_830 (b s : Nat) : xall (fun _ a => xBm a) 1 b s codez_830 := And.intro mobz_1068 mobz_no
theorem mocodez_831 (b s : Nat) : xall (fun _ a => xBm a) 2 b s codez_831 := And.intro (mocodez_829 b (2 * s)) (mocodez_830 (b + s) (2 * s))
theorem mocodez_832 (b s : Nat) : xall (fun _ a => xBm a) 1 b s codez_832 := And.intro mobz_556 mobz_no
theorem mocodez_833 (b s : Nat) : xall (fun _ a => xBm a) 1 b s codez_833 := And.intro mobz_1580 mobz_no
theorem mocodez_834 (b s : Nat) : xall (fun _ a => xBm a) 2 b s codez_834 := And.intro (mocodez_832 b (2 * s)) (mocodez_833 (b + s) (2 * s))
theorem mocodez_835 (b s : Nat) : xall (fun _ a => xBm a) 3 b s codez_835 := And.intro (mocodez_831 b (2 * s)) (mocodez_834 (b + s) (2 * s))
theorem mocodez_836 (b s : Nat) : xall (fun _ a => xBm a) 1 b s codez_836 := And.intro mobz_300 mobz_2348
theorem mocodez_837 (b s : Nat) : xall (fun _ a => xBm a) 1 b s codez_837 := And.intro mobz_1324 mobz_no
theorem mocodez_838 (b s : Nat) : xall (fun _ a => xBm a) 2 b s codez_838 := And.intro (mocodez_836 b (2 * s)) (mocodez_837 (b + s) (2 * s))
theorem mocodez_839 (b s : Nat) : xall (fun _ a => xBm a) 1 b s codez_839 := And.intro mobz_812 mobz_no
theorem mocodez_840 (b s : Nat) : xall (fun _ a => xBm a) 1 b s codez_840 := And.intro mobz_1836 mobz_no
theorem mocodez_841 (b s : Nat) : xall (fun _ a => xBm a) 2 b s codez_841 := And.intro (mocodez_839 b (2 * s)) (mocodez_840 (b + s) (2 * s))
theorem mocodez_842 (b s : Nat) : xall (fun _ a => xBm a) 3 b s codez_842 := And.intro (mocodez_838 b (2 * s)) (mocodez_841 (b + s) (2 * s))
theorem mocodez_843 (b s : Nat) : xall (fun _ a => xBm a) 4 b s codez_843 := And.intro (mocodez_835 b (2 * s)) (mocodez_842 (b + s) (2 * s))
theorem mocodez_844 (b s : Nat) : xall (fun _ a => xBm a) 1 b s codez_844 := And.intro mobz_172 mobz_2220
theorem mocodez_845 (b s : Nat) : xall (fun _ a => xBm a) 1 b s codez_845 := And.intro mobz_1196 mobz_no
theorem mocodez_846 (b s : Nat) : xall (fun _ a => xBm a) 2 b s codez_846 := And.intro (mocodez_844 b (2 * s)) (mocodez_845 (b + s) (2 * s))
theorem mocodez_847 (b s : Nat) : xall (fun _ a => xBm a) 1 b s codez_847 := And.intro mobz_684 mobz_no
theorem mocodez_848 (b s : Nat) : xall (fun _ a => xBm a) 1 b s codez_848 := And.intro mobz_1708 mobz_no
theorem mocodez_849 (b s : Nat) : xall (fun _ a => xBm a) 2 b s codez_849 := And.intro (mocodez_847 b (2 * s)) (mocodez_848 (b + s) (2 * s))
theorem mocodez_850 (b s : Nat) : xall (fun _ a => xBm a) 3 b s codez_850 := And.intro (mocodez_846 b (2 * s)) (mocodez_849 (b + s) (2 * s))
theorem mocodez_851 (b s : Nat) : xall (fun _ a => xBm a) 1 b s codez_851 := And.intro mobz_428 mobz_2476
theorem mocodez_852 (b s : Nat) : xall (fun _ a => xBm a) 1 b s codez_852 := And.intro mobz_1452 mobz_no
theorem mocodez_853 (b s : Nat) : xall (fun _ a => xBm a) 2 b s codez_853 := And.intro (mocodez_851 b (2 * s)) (mocodez_852 (b + s) (2 * s))
theorem mocodez_854 (b s : Nat) : xall (fun _ a => xBm a) 1 b s codez_854 := And.intro mobz_940 mobz_no
theorem mocodez_855 (b s : Nat) : xall (fun _ a => xBm a) 1 b s codez_855 := And.intro mobz_1964 mobz_no
theorem mocodez_856 (b s : Nat) : xall (fun _ a => xBm a) 2 b s codez_856 := And.intro (mocodez_854 b (2 * s)) (mocodez_855 (b + s) (2 * s))
theorem mocodez_857 (b s : Nat) : xall (fun _ a => xBm a) 3 b s codez_857 := And.intro (mocodez_853 b (2 * s)) (mocodez_856 (b + s) (2 * s))
theorem mocodez_858 (b s : Nat) : xall (fun _ a => xBm a) 4 b s codez_858 := And.intro (mocodez_850 b (2 * s)) (mocodez_857 (b + s) (2 * s))
theorem mocodez_859 (b s : Nat) : xall (fun _ a => xBm a) 5 b s codez_859 := And.intro (mocodez_843 b (2 * s)) (mocodez_858 (b + s) (2 * s))
theorem mocodez_860 (b s : Nat) : xall (fun _ a => xBm a) 1 b s codez_860 := And.intro mobz_108 mobz_2156
theorem mocodez_861 (b s : Nat) : xall (fun _ a => xBm a) 1 b s codez_861 := And.intro mobz_1132 mobz_no
theorem mocodez_862 (b s : Nat) : xall (fun _ a => xBm a) 2 b s codez_862 := And.intro (mocodez_860 b (2 * s)) (mocodez_861 (b + s) (2 * s))
theorem mocodez_863 (b s : Nat) : xall (fun _ a => xBm a) 1 b s codez_863 := And.intro mobz_620 mobz_no
theorem mocodez_864 (b s : Nat) : xall (fun _ a => xBm a) 1 b s codez_864 := And.intro mobz_1644 mobz_no
theorem mocodez_865 (b s : Nat) : xall (fun _ a => xBm a) 2 b s codez_865 := And.intro (mocodez_863 b (2 * s)) (mocodez_864 (b + s) (2 * s))
theorem mocodez_866 (b s : Nat) : xall (fun _ a => xBm a) 3 b s codez_866 := And.intro (mocodez_862 b (2 * s)) (mocodez_865 (b + s) (2 * s))
theorem mocodez_867 (b s : Nat) : xall (fun _ a => xBm a) 1 b s codez_867 := And.intro mobz_364 mobz_2412
theorem mocodez_868 (b s : Nat) : xall (fun _ a => xBm a) 1 b s codez_868 := And.intro mobz_1388 mobz_no
theorem mocodez_869 (b s : Nat) : xall (fun _ a => xBm a) 2 b s codez_869 := And.intro (mocodez_867 b (2 * s)) (mocodez_868 (b + s) (2 * s))
theorem mocodez_870 (b s : Nat) : xall (fun _ a => xBm a) 1 b s codez_870 := And.intro mobz_876 mobz_no
theorem mocodez_871 (b s : Nat) : xall (fun _ a => xBm a) 1 b s codez_871 := And.intro mobz_1900 mobz_no
theorem mocodez_872 (b s : Nat) : xall (fun _ a => xBm a) 2 b s codez_872 := And.intro (mocodez_870 b (2 * s)) (mocodez_871 (b + s) (2 * s))
theorem mocodez_873 (b s : Nat) : xall (fun _ a => xBm a) 3 b s codez_873 := And.intro (mocodez_869 b (2 * s)) (mocodez_872 (b + s) (2 * s))
theorem mocodez_874 (b s : Nat) : xall (fun _ a => xBm a) 4 b s codez_874 := And.intro (mocodez_866 b (2 * s)) (mocodez_873 (b + s) (2 * s))
theorem mocodez_875 (b s : Nat) : xall (fun _ a => xBm a) 1 b s codez_875 := And.intro mobz_236 mobz_2284
theorem mocodez_876 (b s : Nat) : xall (fun _ a => xBm a) 1 b s codez_876 := And.intro mobz_1260 mobz_no
theorem mocodez_877 (b s : Nat) : xall (fun _ a => xBm a) 2 b s codez_877 := And.intro (mocodez_875 b (2 * s)) (mocodez_876 (b + s) (2 * s))
theorem mocodez_878 (b s : Nat) : xall (fun _ a => xBm a) 1 b s codez_878 := And.intro mobz_748 mobz_no
theorem mocodez_879 (b s : Nat) : xall (fun _ a => xBm a) 1 b s codez_879 := And.intro mobz_1772 mobz_no
theorem mocodez_880 (b s : Nat) : xall (fun _ a => xBm a) 2 b s codez_880 := And.intro (mocodez_878 b (2 * s)) (mocodez_879 (b + s) (2 * s))
theorem mocodez_881 (b s : Nat) : xall (fun _ a => xBm a) 3 b s codez_881 := And.intro (mocodez_877 b (2 * s)) (mocodez_880 (b + s) (2 * s))
theorem mocodez_882 (b s : Nat) : xall (fun _ a => xBm a) 1 b s codez_882 := And.intro mobz_492 mobz_2540
theorem mocodez_883 (b s : Nat) : xall (fun _ a => xBm a) 1 b s codez_883 := And.intro mobz_1516 mobz_no
theorem mocodez_884 (b s : Nat) : xall (fun _ a => xBm a) 2 b s codez_884 := And.intro (mocodez_882 b (2 * s)) (mocodez_883 (b + s) (2 * s))
theorem mocodez_885 (b s : Nat) : xall (fun _ a => xBm a) 1 b s codez_885 := And.intro mobz_1004 mobz_no
theorem mocodez_886 (b s : Nat) : xall (fun _ a => xBm a) 1 b s codez_886 := And.intro mobz_2028 mobz_no
theorem mocodez_887 (b s : Nat) : xall (fun _ a => xBm a) 2 b s codez_887 := And.intro (mocodez_885 b (2 * s)) (mocodez_886 (b + s) (2 * s))
theorem mocodez_888 (b s : Nat) : xall (fun _ a => xBm a) 3 b s codez_888 := And.intro (mocodez_884 b (2 * s)) (mocodez_887 (b + s) (2 * s))
theorem mocodez_889 (b s : Nat) : xall (fun _ a => xBm a) 4 b s codez_889 := And.intro (mocodez_881 b (2 * s)) (mocodez_888 (b + s) (2 * s))
theorem mocodez_890 (b s : Nat) : xall (fun _ a => xBm a) 5 b s codez_890 := And.intro (mocodez_874 b (2 * s)) (mocodez_889 (b + s) (2 * s))
theorem mocodez_891 (b s : Nat) : xall (fun _ a => xBm a) 6 b s codez_891 := And.intro (mocodez_859 b (2 * s)) (mocodez_890 (b + s) (2 * s))
theorem mocodez_892 (b s : Nat) : xall (fun _ a => xBm a) 7 b s codez_892 := And.intro (mocodez_828 b (2 * s)) (mocodez_891 (b + s) (2 * s))
theorem mocodez_893 (b s : Nat) : xall (fun _ a => xBm a) 1 b s codez_893 := And.intro mobz_28 mobz_2076
theorem mocodez_894 (b s : Nat) : xall (fun _ a => xBm a) 1 b s codez_894 := And.intro mobz_1052 mobz_no
theorem mocodez_895 (b s : Nat) : xall (fun _ a => xBm a) 2 b s codez_895 := And.intro (mocodez_893 b (2 * s)) (mocodez_894 (b + s) (2 * s))
theorem mocodez_896 (b s : Nat) : xall (fun _ a => xBm a) 1 b s codez_896 := And.intro mobz_540 mobz_no
theorem mocodez_897 (b s : Nat) : xall (fun _ a => xBm a) 1 b s codez_897 := And.intro mobz_1564 mobz_no
theorem mocodez_898 (b s : Nat) : xall (fun _ a => xBm a) 2 b s codez_898 := And.intro (mocodez_896 b (2 * s)) (mocodez_897 (b + s) (2 * s))
theorem mocodez_899 (b s : Nat) : xall (fun _ a => xBm a) 3 b s codez_899 := And.intro (mocodez_895 b (2 * s)) (mocodez_898 (b + s) (2 * s))
theorem mocodez_900 (b s : Nat) : xall (fun _ a => xBm a) 1 b s codez_900 := And.intro mobz_284 mobz_2332
theorem mocodez_901 (b s : Nat) : xall (fun _ a => xBm a) 1 b s codez_901 := And.intro mobz_1308 mobz_no
theorem mocodez_902 (b s : Nat) : xall (fun _ a => xBm a) 2 b s codez_902 := And.intro (mocodez_900 b (2 * s)) (mocodez_901 (b + s) (2 * s))
theorem mocodez_903 (b s : Nat) : xall (fun _ a => xBm a) 1 b s codez_903 := And.intro mobz_796 mobz_no
theorem mocodez_904 (b s : Nat) : xall (fun _ a => xBm a) 1 b s codez_904 := And.intro mobz_1820 mobz_no
theorem mocodez_905 (b s : Nat) : xall (fun _ a => xBm a) 2 b s codez_905 := And.intro (mocodez_903 b (2 * s)) (mocodez_904 (b + s) (2 * s))
theorem mocodez_906 (b s : Nat) : xall (fun _ a => xBm a) 3 b s codez_906 := And.intro (mocodez_902 b (2 * s)) (mocodez_905 (b + s) (2 * s))
theorem mocodez_907 (b s : Nat) : xall (fun _ a => xBm a) 4 b s codez_907 := And.intro (mocodez_899 b (2 * s)) (mocodez_906 (b + s) (2 * s))
theorem mocodez_908 (b s : Nat) : xall (fun _ a => xBm a) 1 b s codez_908 := And.intro mobz_156 mobz_2204
theorem mocodez_909 (b s : Nat) : xall (fun _ a => xBm a) 1 b s codez_909 := And.intro mobz_1180 mobz_no
theorem mocodez_910 (b s : Nat) : xall (fun _ a => xBm a) 2 b s codez_910 := And.intro (mocodez_908 b (2 * s)) (mocodez_909 (b + s) (2 * s))
theorem mocodez_911 (b s : Nat) : xall (fun _ a => xBm a) 1 b s codez_911 := And.intro mobz_668 mobz_no
theorem mocodez_912 (b s : Nat) : xall (fun _ a => xBm a) 1 b s codez_912 := And.intro mobz_1692 mobz_no
theorem mocodez_913 (b s : Nat) : xall (fun _ a => xBm a) 2 b s codez_913 := And.intro (mocodez_911 b (2 * s)) (mocodez_912 (b + s) (2 * s))
theorem mocodez_914 (b s : Nat) : xall (fun _ a => xBm a) 3 b s codez_914 := And.intro (mocodez_910 b (2 * s)) (mocodez_913 (b + s) (2 * s))
theorem mocodez_915 (b s : Nat) : xall (fun _ a => xBm a) 1 b s codez_915 := And.intro mobz_412 mobz_2460
theorem mocodez_916 (b s : Nat) : xall (fun _ a => xBm a) 1 b s codez_916 := And.intro mobz_1436 mobz_no
theorem mocodez_917 (b s : Nat) : xall (fun _ a => xBm a) 2 b s codez_917 := And.intro (mocodez_915 b (2 * s)) (mocodez_916 (b + s) (2 * s))
theorem mocodez_918 (b s : Nat) : xall (fun _ a => xBm a) 1 b s codez_918 := And.intro mobz_924 mobz_no
theorem mocodez_919 (b s : Nat) : xall (fun _ a => xBm a) 1 b s codez_919 := And.intro mobz_1948 mobz_no
theorem mocodez_920 (b s : Nat) : xall (fun _ a => xBm a) 2 b s codez_920 := And.intro (mocodez_918 b (2 * s)) (mocodez_919 (b + s) (2 * s))
theorem mocodez_921 (b s : Nat) : xall (fun _ a => xBm a) 3 b s codez_921 := And.intro (mocodez_917 b (2 * s)) (mocodez_920 (b + s) (2 * s))
theorem mocodez_922 (b s : Nat) : xall (fun _ a => xBm a) 4 b s codez_922 := And.intro (mocodez_914 b (2 * s)) (mocodez_921 (b + s) (2 * s))
theorem mocodez_923 (b s : Nat) : xall (fun _ a => xBm a) 5 b s codez_923 := And.intro (mocodez_907 b (2 * s)) (mocodez_922 (b + s) (2 * s))
theorem mocodez_924 (b s : Nat) : xall (fun _ a => xBm a) 1 b s codez_924 := And.intro mobz_92 mobz_2140
theorem mocodez_925 (b s : Nat) : xall (fun _ a => xBm a) 1 b s codez_925 := And.intro mobz_1116 mobz_no
theorem mocodez_926 (b s : Nat) : xall (fun _ a => xBm a) 2 b s codez_926 := And.intro (mocodez_924 b (2 * s)) (mocodez_925 (b + s) (2 * s))
theorem mocodez_927 (b s : Nat) : xall (fun _ a => xBm a) 1 b s codez_927 := And.intro mobz_604 mobz_no
theorem mocodez_928 (b s : Nat) : xall (fun _ a => xBm a) 1 b s codez_928 := And.intro mobz_1628 mobz_no
theorem mocodez_929 (b s : Nat) : xall (fun _ a => xBm a) 2 b s codez_929 := And.intro (mocodez_927 b (2 * s)) (mocodez_928 (b + s) (2 * s))
theorem mocodez_930 (b s : Nat) : xall (fun _ a => xBm a) 3 b s codez_930 := And.intro (mocodez_926 b (2 * s)) (mocodez_929 (b + s) (2 * s))
theorem mocodez_931 (b s : Nat) : xall (fun _ a => xBm a) 1 b s codez_931 := And.intro mobz_348 mobz_2396
theorem mocodez_932 (b s : Nat) : xall (fun _ a => xBm a) 1 b s codez_932 := And.intro mobz_1372 mobz_no
theorem mocodez_933 (b s : Nat) : xall (fun _ a => xBm a) 2 b s codez_933 := And.intro (mocodez_931 b (2 * s)) (mocodez_932 (b + s) (2 * s))
theorem mocodez_934 (b s : Nat) : xall (fun _ a => xBm a) 1 b s codez_934 := And.intro mobz_860 mobz_no
theorem mocodez_935 (b s : Nat) : xall (fun _ a => xBm a) 1 b s codez_935 := And.intro mobz_1884 mobz_no
theorem mocodez_936 (b s : Nat) : xall (fun _ a => xBm a) 2 b s codez_936 := And.intro (mocodez_934 b (2 * s)) (mocodez_935 (b + s) (2 * s))
theorem mocodez_937 (b s : Nat) : xall (fun _ a => xBm a) 3 b s codez_937 := And.intro (mocodez_933 b (2 * s)) (mocodez_936 (b + s) (2 * s))
theorem mocodez_938 (b s : Nat) : xall (fun _ a => xBm a) 4 b s codez_938 := And.intro (mocodez_930 b (2 * s)) (mocodez_937 (b + s) (2 * s))
theorem mocodez_939 (b s : Nat) : xall (fun _ a => xBm a) 1 b s codez_939 := And.intro mobz_220 mobz_2268
theorem mocodez_940 (b s : Nat) : xall (fun _ a => xBm a) 1 b s codez_940 := And.intro mobz_1244 mobz_no
theorem mocodez_941 (b s : Nat) : xall (fun _ a => xBm a) 2 b s codez_941 := And.intro (mocodez_939 b (2 * s)) (mocodez_940 (b + s) (2 * s))
theorem mocodez_942 (b s : Nat) : xall (fun _ a => xBm a) 1 b s codez_942 := And.intro mobz_732 mobz_no
theorem mocodez_943 (b s : Nat) : xall (fun _ a => xBm a) 1 b s codez_943 := And.intro mobz_1756 mobz_no
theorem mocodez_944 (b s : Nat) : xall (fun _ a => xBm a) 2 b s codez_944 := And.intro (mocodez_942 b (2 * s)) (mocodez_943 (b + s) (2 * s))
theorem mocodez_945 (b s : Nat) : xall (fun _ a => xBm a) 3 b s codez_945 := And.intro (mocodez_941 b (2 * s)) (mocodez_944 (b + s) (2 * s))
theorem mocodez_946 (b s : Nat) : xall (fun _ a => xBm a) 1 b s codez_946 := And.intro mobz_476 mobz_2524
theorem mocodez_947 (b s : Nat) : xall (fun _ a => xBm a) 1 b s codez_947 := And.intro mobz_1500 mobz_no
theorem mocodez_948 (b s : Nat) : xall (fun _ a => xBm a) 2 b s codez_948 := And.intro (mocodez_946 b (2 * s)) (mocodez_947 (b + s) (2 * s))
theorem mocodez_949 (b s : Nat) : xall (fun _ a => xBm a) 1 b s codez_949 := And.intro mobz_988 mobz_no
theorem mocodez_950 (b s : Nat) : xall (fun _ a => xBm a) 1 b s codez_950 := And.intro mobz_2012 mobz_no
theorem mocodez_951 (b s : Nat) : xall (fun _ a => xBm a) 2 b s codez_951 := And.intro (mocodez_949 b (2 * s)) (mocodez_950 (b + s) (2 * s))
theorem mocodez_952 (b s : Nat) : xall (fun _ a => xBm a) 3 b s codez_952 := And.intro (mocodez_948 b (2 * s)) (mocodez_951 (b + s) (2 * s))
theorem mocodez_953 (b s : Nat) : xall (fun _ a => xBm a) 4 b s codez_953 := And.intro (mocodez_945 b (2 * s)) (mocodez_952 (b + s) (2 * s))
theorem mocodez_954 (b s : Nat) : xall (fun _ a => xBm a) 5 b s codez_954 := And.intro (mocodez_938 b (2 * s)) (mocodez_953 (b + s) (2 * s))
theorem mocodez_955 (b s : Nat) : xall (fun _ a => xBm a) 6 b s codez_955 := And.intro (mocodez_923 b (2 * s)) (mocodez_954 (b + s) (2 * s))
theorem mocodez_956 (b s : Nat) : xall (fun _ a => xBm a) 1 b s codez_956 := And.intro mobz_60 mobz_2108
theorem mocodez_957 (b s : Nat) : xall (fun _ a => xBm a) 1 b s codez_957 := And.intro mobz_1084 mobz_no
theorem mocodez_958 (b s : Nat) : xall (fun _ a => xBm a) 2 b s codez_958 := And.intro (mocodez_956 b (2 * s)) (mocodez_957 (b + s) (2 * s))
theorem mocodez_959 (b s : Nat) : xall (fun _ a => xBm a) 1 b s codez_959 := And.intro mobz_572 mobz_no
theorem mocodez_960 (b s : Nat) : xall (fun _ a => xBm a) 1 b s codez_960 := And.intro mobz_1596 mobz_no
theorem mocodez_961 (b s : Nat) : xall (fun _ a => xBm a) 2 b s codez_961 := And.intro (mocodez_959 b (2 * s)) (mocodez_960 (b + s) (2 * s))
theorem mocodez_962 (b s : Nat) : xall (fun _ a => xBm a) 3 b s codez_962 := And.intro (mocodez_958 b (2 * s)) (mocodez_961 (b + s) (2 * s))
theorem mocodez_963 (b s : Nat) : xall (fun _ a => xBm a) 1 b s codez_963 := And.intro mobz_316 mobz_2364
theorem mocodez_964 (b s : Nat) : xall (fun _ a => xBm a) 1 b s codez_964 := And.intro mobz_1340 mobz_no
theorem mocodez_965 (b s : Nat) : xall (fun _ a => xBm a) 2 b s codez_965 := And.intro (mocodez_963 b (2 * s)) (mocodez_964 (b + s) (2 * s))
theorem mocodez_966 (b s : Nat) : xall (fun _ a => xBm a) 1 b s codez_966 := And.intro mobz_828 mobz_no
theorem mocodez_967 (b s : Nat) : xall (fun _ a => xBm a) 1 b s codez_967 := And.intro mobz_1852 mobz_no
theorem mocodez_968 (b s : Nat) : xall (fun _ a => xBm a) 2 b s codez_968 := And.intro (mocodez_966 b (2 * s)) (mocodez_967 (b + s) (2 * s))
theorem mocodez_969 (b s : Nat) : xall (fun _ a => xBm a) 3 b s codez_969 := And.intro (mocodez_965 b (2 * s)) (mocodez_968 (b + s) (2 * s))
theorem mocodez_970 (b s : Nat) : xall (fun _ a => xBm a) 4 b s codez_970 := And.intro (mocodez_962 b (2 * s)) (mocodez_969 (b + s) (2 * s))
theorem mocodez_971 (b s : Nat) : xall (fun _ a => xBm a) 1 b s codez_971 := And.intro mobz_188 mobz_2236
theorem mocodez_972 (b s : Nat) : xall (fun _ a => xBm a) 1 b s codez_972 := And.intro mobz_1212 mobz_no
theorem mocodez_973 (b s : Nat) : xall (fun _ a => xBm a) 2 b s codez_973 := And.intro (mocodez_971 b (2 * s)) (mocodez_972 (b + s) (2 * s))
theorem mocodez_974 (b s : Nat) : xall (fun _ a => xBm a) 1 b s codez_974 := And.intro mobz_700 mobz_no
theorem mocodez_975 (b s : Nat) : xall (fun _ a => xBm a) 1 b s codez_975 := And.intro mobz_1724 mobz_no
theorem mocodez_976 (b s : Nat) : xall (fun _ a => xBm a) 2 b s codez_976 := And.intro (mocodez_974 b (2 * s)) (mocodez_975 (b + s) (2 * s))
theorem mocodez_977 (b s : Nat) : xall (fun _ a => xBm a) 3 b s codez_977 := And.intro (mocodez_973 b (2 * s)) (mocodez_976 (b + s) (2 * s))
theorem mocodez_978 (b s : Nat) : xall (fun _ a => xBm a) 1 b s codez_978 := And.intro mobz_444 mobz_2492
theorem mocodez_979 (b s : Nat) : xall (fun _ a => xBm a) 1 b s codez_979 := And.intro mobz_1468 mobz_no
theorem mocodez_980 (b s : Nat) : xall (fun _ a => xBm a) 2 b s codez_980 := And.intro (mocodez_978 b (2 * s)) (mocodez_979 (b + s) (2 * s))
theorem mocodez_981 (b s : Nat) : xall (fun _ a => xBm a) 1 b s codez_981 := And.intro mobz_956 mobz_no
theorem mocodez_982 (b s : Nat) : xall (fun _ a => xBm a) 1 b s codez_982 := And.intro mobz_1980 mobz_no
theorem mocodez_983 (b s : Nat) : xall (fun _ a => xBm a) 2 b s codez_983 := And.intro (mocodez_981 b (2 * s)) (mocodez_982 (b + s) (2 * s))
theorem mocodez_984 (b s : Nat) : xall (fun _ a => xBm a) 3 b s codez_984 := And.intro (mocodez_980 b (2 * s)) (mocodez_983 (b + s) (2 * s))
theorem mocodez_985 (b s : Nat) : xall (fun _ a => xBm a) 4 b s codez_985 := And.intro (mocodez_977 b (2 * s)) (mocodez_984 (b + s) (2 * s))
theorem mocodez_986 (b s : Nat) : xall (fun _ a => xBm a) 5 b s codez_986 := And.intro (mocodez_970 b (2 * s)) (mocodez_985 (b + s) (2 * s))
theorem mocodez_987 (b s : Nat) : xall (fun _ a => xBm a) 1 b s codez_987 := And.intro mobz_124 mobz_2172
theorem mocodez_988 (b s : Nat) : xall (fun _ a => xBm a) 1 b s codez_988 := And.intro mobz_1148 mobz_no
theorem mocodez_989 (b s : Nat) : xall (fun _ a => xBm a) 2 b s codez_989 := And.intro (mocodez_987 b (2 * s)) (mocodez_988 (b + s) (2 * s))
theorem mocodez_990 (b s : Nat) : xall (fun _ a => xBm a) 1 b s codez_990 := And.intro mobz_636 mobz_no
theorem mocodez_991 (b s : Nat) : xall (fun _ a => xBm a) 1 b s codez_991 := And.intro mobz_1660 mobz_no
theorem mocodez_992 (b s : Nat) : xall (fun _ a => xBm a) 2 b s codez_992 := And.intro (mocodez_990 b (2 * s)) (mocodez_991 (b + s) (2 * s))
theorem mocodez_993 (b s : Nat) : xall (fun _ a => xBm a) 3 b s codez_993 := And.intro (mocodez_989 b (2 * s)) (mocodez_992 (b + s) (2 * s))
theorem mocodez_994 (b s : Nat) : xall (fun _ a => xBm a) 1 b s codez_994 := And.intro mobz_380 mobz_2428
theorem mocodez_995 (b s : Nat) : xall (fun _ a => xBm a) 1 b s codez_995 := And.intro mobz_1404 mobz_no
theorem mocodez_996 (b s : Nat) : xall (fun _ a => xBm a) 2 b s codez_996 := And.intro (mocodez_994 b (2 * s)) (mocodez_995 (b + s) (2 * s))
theorem mocodez_997 (b s : Nat) : xall (fun _ a => xBm a) 1 b s codez_997 := And.intro mobz_892 mobz_no
theorem mocodez_998 (b s : Nat) : xall (fun _ a => xBm a) 1 b s codez_998 := And.intro mobz_1916 mobz_no
theorem mocodez_999 (b s : Nat) : xall (fun _ a => xBm a) 2 b s codez_999 := And.intro (mocodez_997 b (2 * s)) (mocodez_998 (b + s) (2 * s))
theorem mocodez_1000 (b s : Nat) : xall (fun _ a => xBm a) 3 b s codez_1000 := And.intro (mocodez_996 b (2 * s)) (mocodez_999 (b + s) (2 * s))
theorem mocodez_1001 (b s : Nat) : xall (fun _ a => xBm a) 4 b s codez_1001 := And.intro (mocodez_993 b (2 * s)) (mocodez_1000 (b + s) (2 * s))
theorem mocodez_1002 (b s : Nat) : xall (fun _ a => xBm a) 1 b s codez_1002 := And.intro mobz_252 mobz_2300
theorem mocodez_1003 (b s : Nat) : xall (fun _ a => xBm a) 1 b s codez_1003 := And.intro mobz_1276 mobz_no
theorem mocodez_1004 (b s : Nat) : xall (fun _ a => xBm a) 2 b s codez_1004 := And.intro (mocodez_1002 b (2 * s)) (mocodez_1003 (b + s) (2 * s))
theorem mocodez_1005 (b s : Nat) : xall (fun _ a => xBm a) 1 b s codez_1005 := And.intro mobz_764 mobz_no
theorem mocodez_1006 (b s : Nat) : xall (fun _ a => xBm a) 1 b s codez_1006 := And.intro mobz_1788 mobz_no
theorem mocodez_1007 (b s : Nat) : xall (fun _ a => xBm a) 2 b s codez_1007 := And.intro (mocodez_1005 b (2 * s)) (mocodez_1006 (b + s) (2 * s))
theorem mocodez_1008 (b s : Nat) : xall (fun _ a => xBm a) 3 b s codez_1008 := And.intro (mocodez_1004 b (2 * s)) (mocodez_1007 (b + s) (2 * s))
theorem mocodez_1009 (b s : Nat) : xall (fun _ a => xBm a) 1 b s codez_1009 := And.intro mobz_508 mobz_no
theorem mocodez_1010 (b s : Nat) : xall (fun _ a => xBm a) 1 b s codez_1010 := And.intro mobz_1532 mobz_no
theorem mocodez_1011 (b s : Nat) : xall (fun _ a => xBm a) 2 b s codez_1011 := And.intro (mocodez_1009 b (2 * s)) (mocodez_1010 (b + s) (2 * s))
theorem mocodez_1012 (b s : Nat) : xall (fun _ a => xBm a) 1 b s codez_1012 := And.intro mobz_1020 mobz_no
theorem mocodez_1013 (b s : Nat) : xall (fun _ a => xBm a) 1 b s codez_1013 := And.intro mobz_2044 mobz_no
theorem mocodez_1014 (b s : Nat) : xall (fun _ a => xBm a) 2 b s codez_1014 := And.intro (mocodez_1012 b (2 * s)) (mocodez_1013 (b + s) (2 * s))
theorem mocodez_1015 (b s : Nat) : xall (fun _ a => xBm a) 3 b s codez_1015 := And.intro (mocodez_1011 b (2 * s)) (mocodez_1014 (b + s) (2 * s))
theorem mocodez_1016 (b s : Nat) : xall (fun _ a => xBm a) 4 b s codez_1016 := And.intro (mocodez_1008 b (2 * s)) (mocodez_1015 (b + s) (2 * s))
theorem mocodez_1017 (b s : Nat) : xall (fun _ a => xBm a) 5 b s codez_1017 := And.intro (mocodez_1001 b (2 * s)) (mocodez_1016 (b + s) (2 * s))
theorem mocodez_1018 (b s : Nat) : xall (fun _ a => xBm a) 6 b s codez_1018 := And.intro (mocodez_986 b (2 * s)) (mocodez_1017 (b + s) (2 * s))
theorem mocodez_1019 (b s : Nat) : xall (fun _ a => xBm a) 7 b s codez_1019 := And.intro (mocodez_955 b (2 * s)) (mocodez_1018 (b + s) (2 * s))
theorem mocodez_1020 (b s : Nat) : xall (fun _ a => xBm a) 8 b s codez_1020 := And.intro (mocodez_892 b (2 * s)) (mocodez_1019 (b + s) (2 * s))
theorem mocodez_1021 (b s : Nat) : xall (fun _ a => xBm a) 9 b s codez_1021 := And.intro (mocodez_765 b (2 * s)) (mocodez_1020 (b + s) (2 * s))
theorem mocodez_1022 (b s : Nat) : xall (fun _ a => xBm a) 10 b s codez_1022 := And.intro (mocodez_510 b (2 * s)) (mocodez_1021 (b + s) (2 * s))
theorem mocodez_1023 (b s : Nat) : xall (fun _ a => xBm a) 1 b s codez_1023 := And.intro mobz_2 mobz_2050
theorem mocodez_1024 (b s : Nat) : xall (fun _ a => xBm a) 1 b s codez_1024 := And.intro mobz_1026 mobz_no
theorem mocodez_1025 (b s : Nat) : xall (fun _ a => xBm a) 2 b s codez_1025 := And.intro (mocodez_1023 b (2 * s)) (mocodez_1024 (b + s) (2 * s))
theorem mocodez_1026 (b s : Nat) : xall (fun _ a => xBm a) 1 b s codez_1026 := And.intro mobz_514 mobz_no
theorem mocodez_1027 (b s : Nat) : xall (fun _ a => xBm a) 1 b s codez_1027 := And.intro mobz_1538 mobz_no
theorem mocodez_1028 (b s : Nat) : xall (fun _ a => xBm a) 2 b s codez_1028 := And.intro (mocodez_1026 b (2 * s)) (mocodez_1027 (b + s) (2 * s))
theorem mocodez_1029 (b s : Nat) : xall (fun _ a => xBm a) 3 b s codez_1029 := And.intro (mocodez_1025 b (2 * s)) (mocodez_1028 (b + s) (2 * s))
theorem mocodez_1030 (b s : Nat) : xall (fun _ a => xBm a) 1 b s codez_1030 := And.intro mobz_258 mobz_2306
theorem mocodez_1031 (b s : Nat) : xall (fun _ a => xBm a) 1 b s codez_1031 := And.intro mobz_1282 mobz_no
theorem mocodez_1032 (b s : Nat) : xall (fun _ a => xBm a) 2 b s codez_1032 := And.intro (mocodez_1030 b (2 * s)) (mocodez_1031 (b + s) (2 * s))
theorem mocodez_1033 (b s : Nat) : xall (fun _ a => xBm a) 1 b s codez_1033 := And.intro mobz_770 mobz_no
theorem mocodez_1034 (b s : Nat) : xall (fun _ a => xBm a) 1 b s codez_1034 := And.intro mobz_1794 mobz_no
theorem mocodez_1035 (b s : Nat) : xall (fun _ a => xBm a) 2 b s codez_1035 := And.intro (mocodez_1033 b (2 * s)) (mocodez_1034 (b + s) (2 * s))
theorem mocodez_1036 (b s : Nat) : xall (fun _ a => xBm a) 3 b s codez_1036 := And.intro (mocodez_1032 b (2 * s)) (mocodez_1035 (b + s) (2 * s))
theorem mocodez_1037 (b s : Nat) : xall (fun _ a => xBm a) 4 b s codez_1037 := And.intro (mocodez_1029 b (2 * s)) (mocodez_1036 (b + s) (2 * s))
theorem mocodez_1038 (b s : Nat) : xall (fun _ a => xBm a) 1 b s codez_1038 := And.intro mobz_130 mobz_2178
theorem mocodez_1039 (b s : Nat) : xall (fun _ a => xBm a) 1 b s codez_1039 := And.intro mobz_1154 mobz_no
theorem mocodez_1040 (b s : Nat) : xall (fun _ a => xBm a) 2 b s codez_1040 := And.intro (mocodez_1038 b (2 * s)) (mocodez_1039 (b + s) (2 * s))
theorem mocodez_1041 (b s : Nat) : xall (fun _ a => xBm a) 1 b s codez_1041 := And.intro mobz_642 mobz_no
theorem mocodez_1042 (b s : Nat) : xall (fun _ a => xBm a) 1 b s codez_1042 := And.intro mobz_1666 mobz_no
theorem mocodez_1043 (b s : Nat) : xall (fun _ a => xBm a) 2 b s codez_1043 := And.intro (mocodez_1041 b (2 * s)) (mocodez_1042 (b + s) (2 * s))
theorem mocodez_1044 (b s : Nat) : xall (fun _ a => xBm a) 3 b s codez_1044 := And.intro (mocodez_1040 b (2 * s)) (mocodez_1043 (b + s) (2 * s))
theorem mocodez_1045 (b s : Nat) : xall (fun _ a => xBm a) 1 b s codez_1045 := And.intro mobz_386 mobz_2434
theorem mocodez_1046 (b s : Nat) : xall (fun _ a => xBm a) 1 b s codez_1046 := And.intro mobz_1410 mobz_no
theorem mocodez_1047 (b s : Nat) : xall (fun _ a => xBm a) 2 b s codez_1047 := And.intro (mocodez_1045 b (2 * s)) (mocodez_1046 (b + s) (2 * s))
theorem mocodez_1048 (b s : Nat) : xall (fun _ a => xBm a) 1 b s codez_1048 := And.intro mobz_898 mobz_no
theorem mocodez_1049 (b s : Nat) : xall (fun _ a => xBm a) 1 b s codez_1049 := And.intro mobz_1922 mobz_no
theorem mocodez_1050 (b s : Nat) : xall (fun _ a => xBm a) 2 b s codez_1050 := And.intro (mocodez_1048 b (2 * s)) (mocodez_1049 (b + s) (2 * s))
theorem mocodez_1051 (b s : Nat) : xall (fun _ a => xBm a) 3 b s codez_1051 := And.intro (mocodez_1047 b (2 * s)) (mocodez_1050 (b + s) (2 * s))
theorem mocodez_1052 (b s : Nat) : xall (fun _ a => xBm a) 4 b s codez_1052 := And.intro (mocodez_1044 b (2 * s)) (mocodez_1051 (b + s) (2 * s))
theorem mocodez_1053 (b s : Nat) : xall (fun _ a => xBm a) 5 b s codez_1053 := And.intro (mocodez_1037 b (2 * s)) (mocodez_1052 (b + s) (2 * s))
theorem mocodez_1054 (b s : Nat) : xall (fun _ a => xBm a) 1 b s codez_1054 := And.intro mobz_66 mobz_2114
theorem mocodez_1055 (b s : Nat) : xall (fun _ a => xBm a) 1 b s codez_1055 := And.intro mobz_1090 mobz_no
theorem mocodez_1056 (b s : Nat) : xall (fun _ a => xBm a) 2 b s codez_1056 := And.intro (mocodez_1054 b (2 * s)) (mocodez_1055 (b + s) (2 * s))
theorem mocodez_1057 (b s : Nat) : xall (fun _ a => xBm a) 1 b s codez_1057 := And.intro mobz_578 mobz_no
theorem mocodez_1058 (b s : Nat) : xall (fun _ a => xBm a) 1 b s codez_1058 := And.intro mobz_1602 mobz_no
theorem mocodez_1059 (b s : Nat) : xall (fun _ a => xBm a) 2 b s codez_1059 := And.intro (mocodez_1057 b (2 * s)) (mocodez_1058 (b + s) (2 * s))
theorem mocodez_1060 (b s : Nat) : xall (fun _ a => xBm a) 3 b s codez_1060 := And.intro (mocodez_1056 b (2 * s)) (mocodez_1059 (b + s) (2 * s))
theorem mocodez_1061 (b s : Nat) : xall (fun _ a => xBm a) 1 b s codez_1061 := And.intro mobz_322 mobz_2370
theorem mocodez_1062 (b s : Nat) : xall (fun _ a => xBm a) 1 b s codez_1062 := And.intro mobz_1346 mobz_no
theorem mocodez_1063 (b s : Nat) : xall (fun _ a => xBm a) 2 b s codez_1063 := And.intro (mocodez_1061 b (2 * s)) (mocodez_1062 (b + s) (2 * s))
theorem mocodez_1064 (b s : Nat) : xall (fun _ a => xBm a) 1 b s codez_1064 := And.intro mobz_834 mobz_no
theorem mocodez_1065 (b s : Nat) : xall (fun _ a => xBm a) 1 b s codez_1065 := And.intro mobz_1858 mobz_no
theorem mocodez_1066 (b s : Nat) : xall (fun _ a => xBm a) 2 b s codez_1066 := And.intro (mocodez_1064 b (2 * s)) (mocodez_1065 (b + s) (2 * s))
theorem mocodez_1067 (b s : Nat) : xall (fun _ a => xBm a) 3 b s codez_1067 := And.intro (mocodez_1063 b (2 * s)) (mocodez_1066 (b + s) (2 * s))
theorem mocodez_1068 (b s : Nat) : xall (fun _ a => xBm a) 4 b s codez_1068 := And.intro (mocodez_1060 b (2 * s)) (mocodez_1067 (b + s) (2 * s))
theorem mocodez_1069 (b s : Nat) : xall (fun _ a => xBm a) 1 b s codez_1069 := And.intro mobz_194 mobz_2242
theorem mocodez_1070 (b s : Nat) : xall (fun _ a => xBm a) 1 b s codez_1070 := And.intro mobz_1218 mobz_no
theorem mocodez_1071 (b s : Nat) : xall (fun _ a => xBm a) 2 b s codez_1071 := And.intro (mocodez_1069 b (2 * s)) (mocodez_1070 (b + s) (2 * s))
theorem mocodez_1072 (b s : Nat) : xall (fun _ a => xBm a) 1 b s codez_1072 := And.intro mobz_706 mobz_no
theorem mocodez_1073 (b s : Nat) : xall (fun _ a => xBm a) 1 b s codez_1073 := And.intro mobz_1730 mobz_no
theorem mocodez_1074 (b s : Nat) : xall (fun _ a => xBm a) 2 b s codez_1074 := And.intro (mocodez_1072 b (2 * s)) (mocodez_1073 (b + s) (2 * s))
theorem mocodez_1075 (b s : Nat) : xall (fun _ a => xBm a) 3 b s codez_1075 := And.intro (mocodez_1071 b (2 * s)) (mocodez_1074 (b + s) (2 * s))
theorem mocodez_1076 (b s : Nat) : xall (fun _ a => xBm a) 1 b s codez_1076 := And.intro mobz_450 mobz_2498
theorem mocodez_1077 (b s : Nat) : xall (fun _ a => xBm a) 1 b s codez_1077 := And.intro mobz_1474 mobz_no
theorem mocodez_1078 (b s : Nat) : xall (fun _ a => xBm a) 2 b s codez_1078 := And.intro (mocodez_1076 b (2 * s)) (mocodez_1077 (b + s) (2 * s))
theorem mocodez_1079 (b s : Nat) : xall (fun _ a => xBm a) 1 b s codez_1079 := And.intro mobz_962 mobz_no
theorem mocodez_1080 (b s : Nat) : xall (fun _ a => xBm a) 1 b s codez_1080 := And.intro mobz_1986 mobz_no
theorem mocodez_1081 (b s : Nat) : xall (fun _ a => xBm a) 2 b s codez_1081 := And.intro (mocodez_1079 b (2 * s)) (mocodez_1080 (b + s) (2 * s))
theorem mocodez_1082 (b s : Nat) : xall (fun _ a => xBm a) 3 b s codez_1082 := And.intro (mocodez_1078 b (2 * s)) (mocodez_1081 (b + s) (2 * s))
theorem mocodez_1083 (b s : Nat) : xall (fun _ a => xBm a) 4 b s codez_1083 := And.intro (mocodez_1075 b (2 * s)) (mocodez_1082 (b + s) (2 * s))
theorem mocodez_1084 (b s : Nat) : xall (fun _ a => xBm a) 5 b s codez_1084 := And.intro (mocodez_1068 b (2 * s)) (mocodez_1083 (b + s) (2 * s))
theorem mocodez_1085 (b s : Nat) : xall (fun _ a => xBm a) 6 b s codez_1085 := And.intro (mocodez_1053 b (2 * s)) (mocodez_1084 (b + s) (2 * s))
theorem mocodez_1086 (b s : Nat) : xall (fun _ a => xBm a) 1 b s codez_1086 := And.intro mobz_34 mobz_2082
theorem mocodez_1087 (b s : Nat) : xall (fun _ a => xBm a) 1 b s codez_1087 := And.intro mobz_1058 mobz_no
theorem mocodez_1088 (b s : Nat) : xall (fun _ a => xBm a) 2 b s codez_1088 := And.intro (mocodez_1086 b (2 * s)) (mocodez_1087 (b + s) (2 * s))
theorem mocodez_1089 (b s : Nat) : xall (fun _ a => xBm a) 1 b s codez_1089 := And.intro mobz_546 mobz_no
theorem mocodez_1090 (b s : Nat) : xall (fun _ a => xBm a) 1 b s codez_1090 := And.intro mobz_1570 mobz_no
theorem mocodez_1091 (b s : Nat) : xall (fun _ a => xBm a) 2 b s codez_1091 := And.intro (mocodez_1089 b (2 * s)) (mocodez_1090 (b + s) (2 * s))
theorem mocodez_1092 (b s : Nat) : xall (fun _ a => xBm a) 3 b s codez_1092 := And.intro (mocodez_1088 b (2 * s)) (mocodez_1091 (b + s) (2 * s))
theorem mocodez_1093 (b s : Nat) : xall (fun _ a => xBm a) 1 b s codez_1093 := And.intro mobz_290 mobz_2338
theorem mocodez_1094 (b s : Nat) : xall (fun _ a => xBm a) 1 b s codez_1094 := And.intro mobz_1314 mobz_no
theorem mocodez_1095 (b s : Nat) : xall (fun _ a => xBm a) 2 b s codez_1095 := And.intro (mocodez_1093 b (2 * s)) (mocodez_1094 (b + s) (2 * s))
theorem mocodez_1096 (b s : Nat) : xall (fun _ a => xBm a) 1 b s codez_1096 := And.intro mobz_802 mobz_no
theorem mocodez_1097 (b s : Nat) : xall (fun _ a => xBm a) 1 b s codez_1097 := And.intro mobz_1826 mobz_no
theorem mocodez_1098 (b s : Nat) : xall (fun _ a => xBm a) 2 b s codez_1098 := And.intro (mocodez_1096 b (2 * s)) (mocodez_1097 (b + s) (2 * s))
theorem mocodez_1099 (b s : Nat) : xall (fun _ a => xBm a) 3 b s codez_1099 := And.intro (mocodez_1095 b (2 * s)) (mocodez_1098 (b + s) (2 * s))
theorem mocodez_1100 (b s : Nat) : xall (fun _ a => xBm a) 4 b s codez_1100 := And.intro (mocodez_1092 b (2 * s)) (mocodez_1099 (b + s) (2 * s))
theorem mocodez_1101 (b s : Nat) : xall (fun _ a => xBm a) 1 b s codez_1101 := And.intro mobz_162 mobz_2210
theorem mocodez_1102 (b s : Nat) : xall (fun _ a => xBm a) 1 b s codez_1102 := And.intro mobz_1186 mobz_no
theorem mocodez_1103 (b s : Nat) : xall (fun _ a => xBm a) 2 b s codez_1103 := And.intro (mocodez_1101 b (2 * s)) (mocodez_1102 (b + s) (2 * s))
theorem mocodez_1104 (b s : Nat) : xall (fun _ a => xBm a) 1 b s codez_1104 := And.intro mobz_674 mobz_no
theorem mocodez_1105 (b s : Nat) : xall (fun _ a => xBm a) 1 b s codez_1105 := And.intro mobz_1698 mobz_no
theorem mocodez_1106 (b s : Nat) : xall (fun _ a => xBm a) 2 b s codez_1106 := And.intro (mocodez_1104 b (2 * s)) (mocodez_1105 (b + s) (2 * s))
theorem mocodez_1107 (b s : Nat) : xall (fun _ a => xBm a) 3 b s codez_1107 := And.intro (mocodez_1103 b (2 * s)) (mocodez_1106 (b + s) (2 * s))
theorem mocodez_1108 (b s : Nat) : xall (fun _ a => xBm a) 1 b s codez_1108 := And.intro mobz_418 mobz_2466
theorem mocodez_1109 (b s : Nat) : xall (fun _ a => xBm a) 1 b s codez_1109 := And.intro mobz_1442 mobz_no
theorem mocodez_1110 (b s : Nat) : xall (fun _ a => xBm a) 2 b s codez_1110 := And.intro (mocodez_1108 b (2 * s)) (mocodez_1109 (b + s) (2 * s))
theorem mocodez_1111 (b s : Nat) : xall (fun _ a => xBm a) 1 b s codez_1111 := And.intro mobz_930 mobz_no
theorem mocodez_1112 (b s : Nat) : xall (fun _ a => xBm a) 1 b s codez_1112 := And.intro mobz_1954 mobz_no
theorem mocodez_1113 (b s : Nat) : xall (fun _ a => xBm a) 2 b s codez_1113 := And.intro (mocodez_1111 b (2 * s)) (mocodez_1112 (b + s) (2 * s))
theorem mocodez_1114 (b s : Nat) : xall (fun _ a => xBm a) 3 b s codez_1114 := And.intro (mocodez_1110 b (2 * s)) (mocodez_1113 (b + s) (2 * s))
theorem mocodez_1115 (b s : Nat) : xall (fun _ a => xBm a) 4 b s codez_1115 := And.intro (mocodez_1107 b (2 * s)) (mocodez_1114 (b + s) (2 * s))
theorem mocodez_1116 (b s : Nat) : xall (fun _ a => xBm a) 5 b s codez_1116 := And.intro (mocodez_1100 b (2 * s)) (mocodez_1115 (b + s) (2 * s))
theorem mocodez_1117 (b s : Nat) : xall (fun _ a => xBm a) 1 b s codez_1117 := And.intro mobz_98 mobz_2146
theorem mocodez_1118 (b s : Nat) : xall (fun _ a => xBm a) 1 b s codez_1118 := And.intro mobz_1122 mobz_no
theorem mocodez_1119 (b s : Nat) : xall (fun _ a => xBm a) 2 b s codez_1119 := And.intro (mocodez_1117 b (2 * s)) (mocodez_1118 (b + s) (2 * s))
theorem mocodez_1120 (b s : Nat) : xall (fun _ a => xBm a) 1 b s codez_1120 := And.intro mobz_610 mobz_no
theorem mocodez_1121 (b s : Nat) : xall (fun _ a => xBm a) 1 b s codez_1121 := And.intro mobz_1634 mobz_no
theorem mocodez_1122 (b s : Nat) : xall (fun _ a => xBm a) 2 b s codez_1122 := And.intro (mocodez_1120 b (2 * s)) (mocodez_1121 (b + s) (2 * s))
theorem mocodez_1123 (b s : Nat) : xall (fun _ a => xBm a) 3 b s codez_1123 := And.intro (mocodez_1119 b (2 * s)) (mocodez_1122 (b + s) (2 * s))
theorem mocodez_1124 (b s : Nat) : xall (fun _ a => xBm a) 1 b s codez_1124 := And.intro mobz_354 mobz_2402
theorem mocodez_1125 (b s : Nat) : xall (fun _ a => xBm a) 1 b s codez_1125 := And.intro mobz_1378 mobz_no
theorem mocodez_1126 (b s : Nat) : xall (fun _ a => xBm a) 2 b s codez_1126 := And.intro (mocodez_1124 b (2 * s)) (mocodez_1125 (b + s) (2 * s))
theorem mocodez_1127 (b s : Nat) : xall (fun _ a => xBm a) 1 b s codez_1127 := And.intro mobz_866 mobz_no
theorem mocodez_1128 (b s : Nat) : xall (fun _ a => xBm a) 1 b s codez_1128 := And.intro mobz_1890 mobz_no
theorem mocodez_1129 (b s : Nat) : xall (fun _ a => xBm a) 2 b s codez_1129 := And.intro (mocodez_1127 b (2 * s)) (mocodez_1128 (b + s) (2 * s))
theorem mocodez_1130 (b s : Nat) : xall (fun _ a => xBm a) 3 b s codez_1130 := And.intro (mocodez_1126 b (2 * s)) (mocodez_1129 (b + s) (2 * s))
theorem mocodez_1131 (b s : Nat) : xall (fun _ a => xBm a) 4 b s codez_1131 := And.intro (mocodez_1123 b (2 * s)) (mocodez_1130 (b + s) (2 * s))
theorem mocodez_1132 (b s : Nat) : xall (fun _ a => xBm a) 1 b s codez_1132 := And.intro mobz_226 mobz_2274
theorem mocodez_1133 (b s : Nat) : xall (fun _ a => xBm a) 1 b s codez_1133 := And.intro mobz_1250 mobz_no
theorem mocodez_1134 (b s : Nat) : xall (fun _ a => xBm a) 2 b s codez_1134 := And.intro (mocodez_1132 b (2 * s)) (mocodez_1133 (b + s) (2 * s))
theorem mocodez_1135 (b s : Nat) : xall (fun _ a => xBm a) 1 b s codez_1135 := And.intro mobz_738 mobz_no
theorem mocodez_1136 (b s : Nat) : xall (fun _ a => xBm a) 1 b s codez_1136 := And.intro mobz_1762 mobz_no
theorem mocodez_1137 (b s : Nat) : xall (fun _ a => xBm a) 2 b s codez_1137 := And.intro (mocodez_1135 b (2 * s)) (mocodez_1136 (b + s) (2 * s))
theorem mocodez_1138 (b s : Nat) : xall (fun _ a => xBm a) 3 b s codez_1138 := And.intro (mocodez_1134 b (2 * s)) (mocodez_1137 (b + s) (2 * s))
theorem mocodez_1139 (b s : Nat) : xall (fun _ a => xBm a) 1 b s codez_1139 := And.intro mobz_482 mobz_2530
theorem mocodez_1140 (b s : Nat) : xall (fun _ a => xBm a) 1 b s codez_1140 := And.intro mobz_1506 mobz_no
theorem mocodez_1141 (b s : Nat) : xall (fun _ a => xBm a) 2 b s codez_1141 := And.intro (mocodez_1139 b (2 * s)) (mocodez_1140 (b + s) (2 * s))
theorem mocodez_1142 (b s : Nat) : xall (fun _ a => xBm a) 1 b s codez_1142 := And.intro mobz_994 mobz_no
theorem mocodez_1143 (b s : Nat) : xall (fun _ a => xBm a) 1 b s codez_1143 := And.intro mobz_2018 mobz_no
theorem mocodez_1144 (b s : Nat) : xall (fun _ a => xBm a) 2 b s codez_1144 := And.intro (mocodez_1142 b (2 * s)) (mocodez_1143 (b + s) (2 * s))
theorem mocodez_1145 (b s : Nat) : xall (fun _ a => xBm a) 3 b s codez_1145 := And.intro (mocodez_1141 b (2 * s)) (mocodez_1144 (b + s) (2 * s))
theorem mocodez_1146 (b s : Nat) : xall (fun _ a => xBm a) 4 b s codez_1146 := And.intro (mocodez_1138 b (2 * s)) (mocodez_1145 (b + s) (2 * s))
theorem mocodez_1147 (b s : Nat) : xall (fun _ a => xBm a) 5 b s codez_1147 := And.intro (mocodez_1131 b (2 * s)) (mocodez_1146 (b + s) (2 * s))
theorem mocodez_1148 (b s : Nat) : xall (fun _ a => xBm a) 6 b s codez_1148 := And.intro (mocodez_1116 b (2 * s)) (mocodez_1147 (b + s) (2 * s))
theorem mocodez_1149 (b s : Nat) : xall (fun _ a => xBm a) 7 b s codez_1149 := And.intro (mocodez_1085 b (2 * s)) (mocodez_1148 (b + s) (2 * s))
theorem mocodez_1150 (b s : Nat) : xall (fun _ a => xBm a) 1 b s codez_1150 := And.intro mobz_18 mobz_2066
theorem mocodez_1151 (b s : Nat) : xall (fun _ a => xBm a) 1 b s codez_1151 := And.intro mobz_1042 mobz_no
theorem mocodez_1152 (b s : Nat) : xall (fun _ a => xBm a) 2 b s codez_1152 := And.intro (mocodez_1150 b (2 * s)) (mocodez_1151 (b + s) (2 * s))
theorem mocodez_1153 (b s : Nat) : xall (fun _ a => xBm a) 1 b s codez_1153 := And.intro mobz_530 mobz_no
theorem mocodez_1154 (b s : Nat) : xall (fun _ a => xBm a) 1 b s codez_1154 := And.intro mobz_1554 mobz_no
theorem mocodez_1155 (b s : Nat) : xall (fun _ a => xBm a) 2 b s codez_1155 := And.intro (mocodez_1153 b (2 * s)) (mocodez_1154 (b + s) (2 * s))
theorem mocodez_1156 (b s : Nat) : xall (fun _ a => xBm a) 3 b s codez_1156 := And.intro (mocodez_1152 b (2 * s)) (mocodez_1155 (b + s) (2 * s))
theorem mocodez_1157 (b s : Nat) : xall (fun _ a => xBm a) 1 b s codez_1157 := And.intro mobz_274 mobz_2322
theorem mocodez_1158 (b s : Nat) : xall (fun _ a => xBm a) 1 b s codez_1158 := And.intro mobz_1298 mobz_no
theorem mocodez_1159 (b s : Nat) : xall (fun _ a => xBm a) 2 b s codez_1159 := And.intro (mocodez_1157 b (2 * s)) (mocodez_1158 (b + s) (2 * s))
theorem mocodez_1160 (b s : Nat) : xall (fun _ a => xBm a) 1 b s codez_1160 := And.intro mobz_786 mobz_no
theorem mocodez_1161 (b s : Nat) : xall (fun _ a => xBm a) 1 b s codez_1161 := And.intro mobz_1810 mobz_no
theorem mocodez_1162 (b s : Nat) : xall (fun _ a => xBm a) 2 b s codez_1162 := And.intro (mocodez_1160 b (2 * s)) (mocodez_1161 (b + s) (2 * s))
theorem mocodez_1163 (b s : Nat) : xall (fun _ a => xBm a) 3 b s codez_1163 := And.intro (mocodez_1159 b (2 * s)) (mocodez_1162 (b + s) (2 * s))
theorem mocodez_1164 (b s : Nat) : xall (fun _ a => xBm a) 4 b s codez_1164 := And.intro (mocodez_1156 b (2 * s)) (mocodez_1163 (b + s) (2 * s))
theorem mocodez_1165 (b s : Nat) : xall (fun _ a => xBm a) 1 b s codez_1165 := And.intro mobz_146 mobz_2194
theorem mocodez_1166 (b s : Nat) : xall (fun _ a => xBm a) 1 b s codez_1166 := And.intro mobz_1170 mobz_no
theorem mocodez_1167 (b s : Nat) : xall (fun _ a => xBm a) 2 b s codez_1167 := And.intro (mocodez_1165 b (2 * s)) (mocodez_1166 (b + s) (2 * s))
theorem mocodez_1168 (b s : Nat) : xall (fun _ a => xBm a) 1 b s codez_1168 := And.intro mobz_658 mobz_no
theorem mocodez_1169 (b s : Nat) : xall (fun _ a => xBm a) 1 b s codez_1169 := And.intro mobz_1682 mobz_no
theorem mocodez_1170 (b s : Nat) : xall (fun _ a => xBm a) 2 b s codez_1170 := And.intro (mocodez_1168 b (2 * s)) (mocodez_1169 (b + s) (2 * s))
theorem mocodez_1171 (b s : Nat) : xall (fun _ a => xBm a) 3 b s codez_1171 := And.intro (mocodez_1167 b (2 * s)) (mocodez_1170 (b + s) (2 * s))
theorem mocodez_1172 (b s : Nat) : xall (fun _ a => xBm a) 1 b s codez_1172 := And.intro mobz_402 mobz_2450
theorem mocodez_1173 (b s : Nat) : xall (fun _ a => xBm a) 1 b s codez_1173 := And.intro mobz_1426 mobz_no
theorem mocodez_1174 (b s : Nat) : xall (fun _ a => xBm a) 2 b s codez_1174 := And.intro (mocodez_1172 b (2 * s)) (mocodez_1173 (b + s) (2 * s))
theorem mocodez_1175 (b s : Nat) : xall (fun _ a => xBm a) 1 b s codez_1175 := And.intro mobz_914 mobz_no
theorem mocodez_1176 (b s : Nat) : xall (fun _ a => xBm a) 1 b s codez_1176 := And.intro mobz_1938 mobz_no
theorem mocodez_1177 (b s : Nat) : xall (fun _ a => xBm a) 2 b s codez_1177 := And.intro (mocodez_1175 b (2 * s)) (mocodez_1176 (b + s) (2 * s))
theorem mocodez_1178 (b s : Nat) : xall (fun _ a => xBm a) 3 b s codez_1178 := And.intro (mocodez_1174 b (2 * s)) (mocodez_1177 (b + s) (2 * s))
theorem mocodez_1179 (b s : Nat) : xall (fun _ a => xBm a) 4 b s codez_1179 := And.intro (mocodez_1171 b (2 * s)) (mocodez_1178 (b + s) (2 * s))
theorem mocodez_1180 (b s : Nat) : xall (fun _ a => xBm a) 5 b s codez_1180 := And.intro (mocodez_1164 b (2 * s)) (mocodez_1179 (b + s) (2 * s))
theorem mocodez_1181 (b s : Nat) : xall (fun _ a => xBm a) 1 b s codez_1181 := And.intro mobz_82 mobz_2130
theorem mocodez_1182 (b s : Nat) : xall (fun _ a => xBm a) 1 b s codez_1182 := And.intro mobz_1106 mobz_no
theorem mocodez_1183 (b s : Nat) : xall (fun _ a => xBm a) 2 b s codez_1183 := And.intro (mocodez_1181 b (2 * s)) (mocodez_1182 (b + s) (2 * s))
theorem mocodez_1184 (b s : Nat) : xall (fun _ a => xBm a) 1 b s codez_1184 := And.intro mobz_594 mobz_no
theorem mocodez_1185 (b s : Nat) : xall (fun _ a => xBm a) 1 b s codez_1185 := And.intro mobz_1618 mobz_no
theorem mocodez_1186 (b s : Nat) : xall (fun _ a => xBm a) 2 b s codez_1186 := And.intro (mocodez_1184 b (2 * s)) (mocodez_1185 (b + s) (2 * s))
theorem mocodez_1187 (b s : Nat) : xall (fun _ a => xBm a) 3 b s codez_1187 := And.intro (mocodez_1183 b (2 * s)) (mocodez_1186 (b + s) (2 * s))
theorem mocodez_1188 (b s : Nat) : xall (fun _ a => xBm a) 1 b s codez_1188 := And.intro mobz_338 mobz_2386
theorem mocodez_1189 (b s : Nat) : xall (fun _ a => xBm a) 1 b s codez_1189 := And.intro mobz_1362 mobz_no
theorem mocodez_1190 (b s : Nat) : xall (fun _ a => xBm a) 2 b s codez_1190 := And.intro (mocodez_1188 b (2 * s)) (mocodez_1189 (b + s) (2 * s))
theorem mocodez_1191 (b s : Nat) : xall (fun _ a => xBm a) 1 b s codez_1191 := And.intro mobz_850 mobz_no
theorem mocodez_1192 (b s : Nat) : xall (fun _ a => xBm a) 1 b s codez_1192 := And.intro mobz_1874 mobz_no
theorem mocodez_1193 (b s : Nat) : xall (fun _ a => xBm a) 2 b s codez_1193 := And.intro (mocodez_1191 b (2 * s)) (mocodez_1192 (b + s) (2 * s))
theorem mocodez_1194 (b s : Nat) : xall (fun _ a => xBm a) 3 b s codez_1194 := And.intro (mocodez_1190 b (2 * s)) (mocodez_1193 (b + s) (2 * s))
theorem mocodez_1195 (b s : Nat) : xall (fun _ a => xBm a) 4 b s codez_1195 := And.intro (mocodez_1187 b (2 * s)) (mocodez_1194 (b + s) (2 * s))
theorem mocodez_1196 (b s : Nat) : xall (fun _ a => xBm a) 1 b s codez_1196 := And.intro mobz_210 mobz_2258
theorem mocodez_1197 (b s : Nat) : xall (fun _ a => xBm a) 1 b s codez_1197 := And.intro mobz_1234 mobz_no
theorem mocodez_1198 (b s : Nat) : xall (fun _ a => xBm a) 2 b s codez_1198 := And.intro (mocodez_1196 b (2 * s)) (mocodez_1197 (b + s) (2 * s))
theorem mocodez_1199 (b s : Nat) : xall (fun _ a => xBm a) 1 b s codez_1199 := And.intro mobz_722 mobz_no
theorem mocodez_1200 (b s : Nat) : xall (fun _ a => xBm a) 1 b s codez_1200 := And.intro mobz_1746 mobz_no
theorem mocodez_1201 (b s : Nat) : xall (fun _ a => xBm a) 2 b s codez_1201 := And.intro (mocodez_1199 b (2 * s)) (mocodez_1200 (b + s) (2 * s))
theorem mocodez_1202 (b s : Nat) : xall (fun _ a => xBm a) 3 b s codez_1202 := And.intro (mocodez_1198 b (2 * s)) (mocodez_1201 (b + s) (2 * s))
theorem mocodez_1203 (b s : Nat) : xall (fun _ a => xBm a) 1 b s codez_1203 := And.intro mobz_466 mobz_2514
theorem mocodez_1204 (b s : Nat) : xall (fun _ a => xBm a) 1 b s codez_1204 := And.intro mobz_1490 mobz_no
theorem mocodez_1205 (b s : Nat) : xall (fun _ a => xBm a) 2 b s codez_1205 := And.intro (mocodez_1203 b (2 * s)) (mocodez_1204 (b + s) (2 * s))
theorem mocodez_1206 (b s : Nat) : xall (fun _ a => xBm a) 1 b s codez_1206 := And.intro mobz_978 mobz_no
theorem mocodez_1207 (b s : Nat) : xall (fun _ a => xBm a) 1 b s codez_1207 := And.intro mobz_2002 mobz_no
theorem mocodez_1208 (b s : Nat) : xall (fun _ a => xBm a) 2 b s codez_1208 := And.intro (mocodez_1206 b (2 * s)) (mocodez_1207 (b + s) (2 * s))
theorem mocodez_1209 (b s : Nat) : xall (fun _ a => xBm a) 3 b s codez_1209 := And.intro (mocodez_1205 b (2 * s)) (mocodez_1208 (b + s) (2 * s))
theorem mocodez_1210 (b s : Nat) : xall (fun _ a => xBm a) 4 b s codez_1210 := And.intro (mocodez_1202 b (2 * s)) (mocodez_1209 (b + s) (2 * s))
theorem mocodez_1211 (b s : Nat) : xall (fun _ a => xBm a) 5 b s codez_1211 := And.intro (mocodez_1195 b (2 * s)) (mocodez_1210 (b + s) (2 * s))
theorem mocodez_1212 (b s : Nat) : xall (fun _ a => xBm a) 6 b s codez_1212 := And.intro (mocodez_1180 b (2 * s)) (mocodez_1211 (b + s) (2 * s))
theorem mocodez_1213 (b s : Nat) : xall (fun _ a => xBm a) 1 b s codez_1213 := And.intro mobz_50 mobz_2098
theorem mocodez_1214 (b s : Nat) : xall (fun _ a => xBm a) 1 b s codez_1214 := And.intro mobz_1074 mobz_no
theorem mocodez_1215 (b s : Nat) : xall (fun _ a => xBm a) 2 b s codez_1215 := And.intro (mocodez_1213 b (2 * s)) (mocodez_1214 (b + s) (2 * s))
theorem mocodez_1216 (b s : Nat) : xall (fun _ a => xBm a) 1 b s codez_1216 := And.intro mobz_562 mobz_no
theorem mocodez_1217 (b s : Nat) : xall (fun _ a => xBm a) 1 b s codez_1217 := And.intro mobz_1586 mobz_no
theorem mocodez_1218 (b s : Nat) : xall (fun _ a => xBm a) 2 b s codez_1218 := And.intro (mocodez_1216 b (2 * s)) (mocodez_1217 (b + s) (2 * s))
theorem mocodez_1219 (b s : Nat) : xall (fun _ a => xBm a) 3 b s codez_1219 := And.intro (mocodez_1215 b (2 * s)) (mocodez_1218 (b + s) (2 * s))
theorem mocodez_1220 (b s : Nat) : xall (fun _ a => xBm a) 1 b s codez_1220 := And.intro mobz_306 mobz_2354
theorem mocodez_1221 (b s : Nat) : xall (fun _ a => xBm a) 1 b s codez_1221 := And.intro mobz_1330 mobz_no
theorem mocodez_1222 (b s : Nat) : xall (fun _ a => xBm a) 2 b s codez_1222 := And.intro (mocodez_1220 b (2 * s)) (mocodez_1221 (b + s) (2 * s))
theorem mocodez_1223 (b s : Nat) : xall (fun _ a => xBm a) 1 b s codez_1223 := And.intro mobz_818 mobz_no
theorem mocodez_1224 (b s : Nat) : xall (fun _ a => xBm a) 1 b s codez_1224 := And.intro mobz_1842 mobz_no
theorem mocodez_1225 (b s : Nat) : xall (fun _ a => xBm a) 2 b s codez_1225 := And.intro (mocodez_1223 b (2 * s)) (mocodez_1224 (b + s) (2 * s))
theorem mocodez_1226 (b s : Nat) : xall (fun _ a => xBm a) 3 b s codez_1226 := And.intro (mocodez_1222 b (2 * s)) (mocodez_1225 (b + s) (2 * s))
theorem mocodez_1227 (b s : Nat) : xall (fun _ a => xBm a) 4 b s codez_1227 := And.intro (mocodez_1219 b (2 * s)) (mocodez_1226 (b + s) (2 * s))
theorem mocodez_1228 (b s : Nat) : xall (fun _ a => xBm a) 1 b s codez_1228 := And.intro mobz_178 mobz_2226
theorem mocodez_1229 (b s : Nat) : xall (fun _ a => xBm a) 1 b s codez_1229 := And.intro mobz_1202 mobz_no
theorem mocodez_1230 (b s : Nat) : xall (fun _ a => xBm a) 2 b s codez_1230 := And.intro (mocodez_1228 b (2 * s)) (mocodez_1229 (b + s) (2 * s))
theorem mocodez_1231 (b s : Nat) : xall (fun _ a => xBm a) 1 b s codez_1231 := And.intro mobz_690 mobz_no
theorem mocodez_1232 (b s : Nat) : xall (fun _ a => xBm a) 1 b s codez_1232 := And.intro mobz_1714 mobz_no
theorem mocodez_1233 (b s : Nat) : xall (fun _ a => xBm a) 2 b s codez_1233 := And.intro (mocodez_1231 b (2 * s)) (mocodez_1232 (b + s) (2 * s))
theorem mocodez_1234 (b s : Nat) : xall (fun _ a => xBm a) 3 b s codez_1234 := And.intro (mocodez_1230 b (2 * s)) (mocodez_1233 (b + s) (2 * s))
theorem mocodez_1235 (b s : Nat) : xall (fun _ a => xBm a) 1 b s codez_1235 := And.intro mobz_434 mobz_2482
theorem mocodez_1236 (b s : Nat) : xall (fun _ a => xBm a) 1 b s codez_1236 := And.intro mobz_1458 mobz_no
theorem mocodez_1237 (b s : Nat) : xall (fun _ a => xBm a) 2 b s codez_1237 := And.intro (mocodez_1235 b (2 * s)) (mocodez_1236 (b + s) (2 * s))
theorem mocodez_1238 (b s : Nat) : xall (fun _ a => xBm a) 1 b s codez_1238 := And.intro mobz_946 mobz_no
theorem mocodez_1239 (b s : Nat) : xall (fun _ a => xBm a) 1 b s codez_1239 := And.intro mobz_1970 mobz_no
theorem mocodez_1240 (b s : Nat) : xall (fun _ a => xBm a) 2 b s codez_1240 := And.intro (mocodez_1238 b (2 * s)) (mocodez_1239 (b + s) (2 * s))
theorem mocodez_1241 (b s : Nat) : xall (fun _ a => xBm a) 3 b s codez_1241 := And.intro (mocodez_1237 b (2 * s)) (mocodez_1240 (b + s) (2 * s))
theorem mocodez_1242 (b s : Nat) : xall (fun _ a => xBm a) 4 b s codez_1242 := And.intro (mocodez_1234 b (2 * s)) (mocodez_1241 (b + s) (2 * s))
theorem mocodez_1243 (b s : Nat) : xall (fun _ a => xBm a) 5 b s codez_1243 := And.intro (mocodez_1227 b (2 * s)) (mocodez_1242 (b + s) (2 * s))
theorem mocodez_1244 (b s : Nat) : xall (fun _ a => xBm a) 1 b s codez_1244 := And.intro mobz_114 mobz_2162
theorem mocodez_1245 (b s : Nat) : xall (fun _ a => xBm a) 1 b s codez_1245 := And.intro mobz_1138 mobz_no
theorem mocodez_1246 (b s : Nat) : xall (fun _ a => xBm a) 2 b s codez_1246 := And.intro (mocodez_1244 b (2 * s)) (mocodez_1245 (b + s) (2 * s))
theorem mocodez_1247 (b s : Nat) : xall (fun _ a => xBm a) 1 b s codez_1247 := And.intro mobz_626 mobz_no
theorem mocodez_1248 (b s : Nat) : xall (fun _ a => xBm a) 1 b s codez_1248 := And.intro mobz_1650 mobz_no
theorem mocodez_1249 (b s : Nat) : xall (fun _ a => xBm a) 2 b s codez_1249 := And.intro (mocodez_1247 b (2 * s)) (mocodez_1248 (b + s) (2 * s))
theorem mocodez_1250 (b s : Nat) : xall (fun _ a => xBm a) 3 b s codez_1250 := And.intro (mocodez_1246 b (2 * s)) (mocodez_1249 (b + s) (2 * s))
theorem mocodez_1251 (b s : Nat) : xall (fun _ a => xBm a) 1 b s codez_1251 := And.intro mobz_370 mobz_2418
theorem mocodez_1252 (b s : Nat) : xall (fun _ a => xBm a) 1 b s codez_1252 := And.intro mobz_1394 mobz_no
theorem mocodez_1253 (b s : Nat) : xall (fun _ a => xBm a) 2 b s codez_1253 := And.intro (mocodez_1251 b (2 * s)) (mocodez_1252 (b + s) (2 * s))
theorem mocodez_1254 (b s : Nat) : xall (fun _ a => xBm a) 1 b s codez_1254 := And.intro mobz_882 mobz_no
theorem mocodez_1255 (b s : Nat) : xall (fun _ a => xBm a) 1 b s codez_1255 := And.intro mobz_1906 mobz_no
theorem mocodez_1256 (b s : Nat) : xall (fun _ a => xBm a) 2 b s codez_1256 := And.intro (mocodez_1254 b (2 * s)) (mocodez_1255 (b + s) (2 * s))
theorem mocodez_1257 (b s : Nat) : xall (fun _ a => xBm a) 3 b s codez_1257 := And.intro (mocodez_1253 b (2 * s)) (mocodez_1256 (b + s) (2 * s))
theorem mocodez_1258 (b s : Nat) : xall (fun _ a => xBm a) 4 b s codez_1258 := And.intro (mocodez_1250 b (2 * s)) (mocodez_1257 (b + s) (2 * s))
theorem mocodez_1259 (b s : Nat) : xall (fun _ a => xBm a) 1 b s codez_1259 := And.intro mobz_242 mobz_2290
theorem mocodez_1260 (b s : Nat) : xall (fun _ a => xBm a) 1 b s codez_1260 := And.intro mobz_1266 mobz_no
theorem mocodez_1261 (b s : Nat) : xall (fun _ a => xBm a) 2 b s codez_1261 := And.intro (mocodez_1259 b (2 * s)) (mocodez_1260 (b + s) (2 * s))
theorem mocodez_1262 (b s : Nat) : xall (fun _ a => xBm a) 1 b s codez_1262 := And.intro mobz_754 mobz_no
theorem mocodez_1263 (b s : Nat) : xall (fun _ a => xBm a) 1 b s codez_1263 := And.intro mobz_1778 mobz_no
theorem mocodez_1264 (b s : Nat) : xall (fun _ a => xBm a) 2 b s codez_1264 := And.intro (mocodez_1262 b (2 * s)) (mocodez_1263 (b + s) (2 * s))
theorem mocodez_1265 (b s : Nat) : xall (fun _ a => xBm a) 3 b s codez_1265 := And.intro (mocodez_1261 b (2 * s)) (mocodez_1264 (b + s) (2 * s))
theorem mocodez_1266 (b s : Nat) : xall (fun _ a => xBm a) 1 b s codez_1266 := And.intro mobz_498 mobz_no
theorem mocodez_1267 (b s : Nat) : xall (fun _ a => xBm a) 1 b s codez_1267 := And.intro mobz_1522 mobz_no
theorem mocodez_1268 (b s : Nat) : xall (fun _ a => xBm a) 2 b s codez_1268 := And.intro (mocodez_1266 b (2 * s)) (mocodez_1267 (b + s) (2 * s))
theorem mocodez_1269 (b s : Nat) : xall (fun _ a => xBm a) 1 b s codez_1269 := And.intro mobz_1010 mobz_no
theorem mocodez_1270 (b s : Nat) : xall (fun _ a => xBm a) 1 b s codez_1270 := And.intro mobz_2034 mobz_no
theorem mocodez_1271 (b s : Nat) : xall (fun _ a => xBm a) 2 b s codez_1271 := And.intro (mocodez_1269 b (2 * s)) (mocodez_1270 (b + s) (2 * s))
theorem mocodez_1272 (b s : Nat) : xall (fun _ a => xBm a) 3 b s codez_1272 := And.intro (mocodez_1268 b (2 * s)) (mocodez_1271 (b + s) (2 * s))
theorem mocodez_1273 (b s : Nat) : xall (fun _ a => xBm a) 4 b s codez_1273 := And.intro (mocodez_1265 b (2 * s)) (mocodez_1272 (b + s) (2 * s))
theorem mocodez_1274 (b s : Nat) : xall (fun _ a => xBm a) 5 b s codez_1274 := And.intro (mocodez_1258 b (2 * s)) (mocodez_1273 (b + s) (2 * s))
theorem mocodez_1275 (b s : Nat) : xall (fun _ a => xBm a) 6 b s codez_1275 := And.intro (mocodez_1243 b (2 * s)) (mocodez_1274 (b + s) (2 * s))
theorem mocodez_1276 (b s : Nat) : xall (fun _ a => xBm a) 7 b s codez_1276 := And.intro (mocodez_1212 b (2 * s)) (mocodez_1275 (b + s) (2 * s))
theorem mocodez_1277 (b s : Nat) : xall (fun _ a => xBm a) 8 b s codez_1277 := And.intro (mocodez_1149 b (2 * s)) (mocodez_1276 (b + s) (2 * s))
theorem mocodez_1278 (b s : Nat) : xall (fun _ a => xBm a) 1 b s codez_1278 := And.intro mobz_10 mobz_2058
theorem mocodez_1279 (b s : Nat) : xall (fun _ a => xBm a) 1 b s codez_1279 := And.intro mobz_1034 mobz_no
theorem mocodez_1280 (b s : Nat) : xall (fun _ a => xBm a) 2 b s codez_1280 := And.intro (mocodez_1278 b (2 * s)) (mocodez_1279 (b + s) (2 * s))
theorem mocodez_1281 (b s : Nat) : xall (fun _ a => xBm a) 1 b s codez_1281 := And.intro mobz_522 mobz_no
theorem mocodez_1282 (b s : Nat) : xall (fun _ a => xBm a) 1 b s codez_1282 := And.intro mobz_1546 mobz_no
theorem mocodez_1283 (b s : Nat) : xall (fun _ a => xBm a) 2 b s codez_1283 := And.intro (mocodez_1281 b (2 * s)) (mocodez_1282 (b + s) (2 * s))
theorem mocodez_1284 (b s : Nat) : xall (fun _ a => xBm a) 3 b s codez_1284 := And.intro (mocodez_1280 b (2 * s)) (mocodez_1283 (b + s) (2 * s))
theorem mocodez_1285 (b s : Nat) : xall (fun _ a => xBm a) 1 b s codez_1285 := And.intro mobz_266 mobz_2314
theorem mocodez_1286 (b s : Nat) : xall (fun _ a => xBm a) 1 b s codez_1286 := And.intro mobz_1290 mobz_no
theorem mocodez_1287 (b s : Nat) : xall (fun _ a => xBm a) 2 b s codez_1287 := And.intro (mocodez_1285 b (2 * s)) (mocodez_1286 (b + s) (2 * s))
theorem mocodez_1288 (b s : Nat) : xall (fun _ a => xBm a) 1 b s codez_1288 := And.intro mobz_778 mobz_no
theorem mocodez_1289 (b s : Nat) : xall (fun _ a => xBm a) 1 b s codez_1289 := And.intro mobz_1802 mobz_no
theorem mocodez_1290 (b s : Nat) : xall (fun _ a => xBm a) 2 b s codez_1290 := And.intro (mocodez_1288 b (2 * s)) (mocodez_1289 (b + s) (2 * s))
theorem mocodez_1291 (b s : Nat) : xall (fun _ a => xBm a) 3 b s codez_1291 := And.intro (mocodez_1287 b (2 * s)) (mocodez_1290 (b + s) (2 * s))
theorem mocodez_1292 (b s : Nat) : xall (fun _ a => xBm a) 4 b s codez_1292 := And.intro (mocodez_1284 b (2 * s)) (mocodez_1291 (b + s) (2 * s))
theorem mocodez_1293 (b s : Nat) : xall (fun _ a => xBm a) 1 b s codez_1293 := And.intro mobz_138 mobz_2186
theorem mocodez_1294 (b s : Nat) : xall (fun _ a => xBm a) 1 b s codez_1294 := And.intro mobz_1162 mobz_no
theorem mocodez_1295 (b s : Nat) : xall (fun _ a => xBm a) 2 b s codez_1295 := And.intro (mocodez_1293 b (2 * s)) (mocodez_1294 (b + s) (2 * s))
theorem mocodez_1296 (b s : Nat) : xall (fun _ a => xBm a) 1 b s codez_1296 := And.intro mobz_650 mobz_no
theorem mocodez_1297 (b s : Nat) : xall (fun _ a => xBm a) 1 b s codez_1297 := And.intro mobz_1674 mobz_no
theorem mocodez_1298 (b s : Nat) : xall (fun _ a => xBm a) 2 b s codez_1298 := And.intro (mocodez_1296 b (2 * s)) (mocodez_1297 (b + s) (2 * s))
theorem mocodez_1299 (b s : Nat) : xall (fun _ a => xBm a) 3 b s codez_1299 := And.intro (mocodez_1295 b (2 * s)) (mocodez_1298 (b + s) (2 * s))
theorem mocodez_1300 (b s : Nat) : xall (fun _ a => xBm a) 1 b s codez_1300 := And.intro mobz_394 mobz_2442
theorem mocodez_1301 (b s : Nat) : xall (fun _ a => xBm a) 1 b s codez_1301 := And.intro mobz_1418 mobz_no
theorem mocodez_1302 (b s : Nat) : xall (fun _ a => xBm a) 2 b s codez_1302 := And.intro (mocodez_1300 b (2 * s)) (mocodez_1301 (b + s) (2 * s))
theorem mocodez_1303 (b s : Nat) : xall (fun _ a => xBm a) 1 b s codez_1303 := And.intro mobz_906 mobz_no
theorem mocodez_1304 (b s : Nat) : xall (fun _ a => xBm a) 1 b s codez_1304 := And.intro mobz_1930 mobz_no
theorem mocodez_1305 (b s : Nat) : xall (fun _ a => xBm a) 2 b s codez_1305 := And.intro (mocodez_1303 b (2 * s)) (mocodez_1304 (b + s) (2 * s))
theorem mocodez_1306 (b s : Nat) : xall (fun _ a => xBm a) 3 b s codez_1306 := And.intro (mocodez_1302 b (2 * s)) (mocodez_1305 (b + s) (2 * s))
theorem mocodez_1307 (b s : Nat) : xall (fun _ a => xBm a) 4 b s codez_1307 := And.intro (mocodez_1299 b (2 * s)) (mocodez_1306 (b + s) (2 * s))
theorem mocodez_1308 (b s : Nat) : xall (fun _ a => xBm a) 5 b s codez_1308 := And.intro (mocodez_1292 b (2 * s)) (mocodez_1307 (b + s) (2 * s))
theorem mocodez_1309 (b s : Nat) : xall (fun _ a => xBm a) 1 b s codez_1309 := And.intro mobz_74 mobz_2122
theorem mocodez_1310 (b s : Nat) : xall (fun _ a => xBm a) 1 b s codez_1310 := And.intro mobz_1098 mobz_no
theorem mocodez_1311 (b s : Nat) : xall (fun _ a => xBm a) 2 b s codez_1311 := And.intro (mocodez_1309 b (2 * s)) (mocodez_1310 (b + s) (2 * s))
theorem mocodez_1312 (b s : Nat) : xall (fun _ a => xBm a) 1 b s codez_1312 := And.intro mobz_586 mobz_no
theorem mocodez_1313 (b s : Nat) : xall (fun _ a => xBm a) 1 b s codez_1313 := And.intro mobz_1610 mobz_no
theorem mocodez_1314 (b s : Nat) : xall (fun _ a => xBm a) 2 b s codez_1314 := And.intro (mocodez_1312 b (2 * s)) (mocodez_1313 (b + s) (2 * s))
theorem mocodez_1315 (b s : Nat) : xall (fun _ a => xBm a) 3 b s codez_1315 := And.intro (mocodez_1311 b (2 * s)) (mocodez_1314 (b + s) (2 * s))
theorem mocodez_1316 (b s : Nat) : xall (fun _ a => xBm a) 1 b s codez_1316 := And.intro mobz_330 mobz_2378
theorem mocodez_1317 (b s : Nat) : xall (fun _ a => xBm a) 1 b s codez_1317 := And.intro mobz_1354 mobz_no
theorem mocodez_1318 (b s : Nat) : xall (fun _ a => xBm a) 2 b s codez_1318 := And.intro (mocodez_1316 b (2 * s)) (mocodez_1317 (b + s) (2 * s))
theorem mocodez_1319 (b s : Nat) : xall (fun _ a => xBm a) 1 b s codez_1319 := And.intro mobz_842 mobz_no
theorem mocodez_1320 (b s : Nat) : xall (fun _ a => xBm a) 1 b s codez_1320 := And.intro mobz_1866 mobz_no
theorem mocodez_1321 (b s : Nat) : xall (fun _ a => xBm a) 2 b s codez_1321 := And.intro (mocodez_1319 b (2 * s)) (mocodez_1320 (b + s) (2 * s))
theorem mocodez_1322 (b s : Nat) : xall (fun _ a => xBm a) 3 b s codez_1322 := And.intro (mocodez_1318 b (2 * s)) (mocodez_1321 (b + s) (2 * s))
theorem mocodez_1323 (b s : Nat) : xall (fun _ a => xBm a) 4 b s codez_1323 := And.intro (mocodez_1315 b (2 * s)) (mocodez_1322 (b + s) (2 * s))
theorem mocodez_1324 (b s : Nat) : xall (fun _ a => xBm a) 1 b s codez_1324 := And.intro mobz_202 mobz_2250
theorem mocodez_1325 (b s : Nat) : xall (fun _ a => xBm a) 1 b s codez_1325 := And.intro mobz_1226 mobz_no
theorem mocodez_1326 (b s : Nat) : xall (fun _ a => xBm a) 2 b s codez_1326 := And.intro (mocodez_1324 b (2 * s)) (mocodez_1325 (b + s) (2 * s))
theorem mocodez_1327 (b s : Nat) : xall (fun _ a => xBm a) 1 b s codez_1327 := And.intro mobz_714 mobz_no
theorem mocodez_1328 (b s : Nat) : xall (fun _ a => xBm a) 1 b s codez_1328 := And.intro mobz_1738 mobz_no
theorem mocodez_1329 (b s : Nat) : xall (fun _ a => xBm a) 2 b s codez_1329 := And.intro (mocodez_1327 b (2 * s)) (mocodez_1328 (b + s) (2 * s))
theorem mocodez_1330 (b s : Nat) : xall (fun _ a => xBm a) 3 b s codez_1330 := And.intro (mocodez_1326 b (2 * s)) (mocodez_1329 (b + s) (2 * s))
theorem mocodez_1331 (b s : Nat) : xall (fun _ a => xBm a) 1 b s codez_1331 := And.intro mobz_458 mobz_2506
theorem mocodez_1332 (b s : Nat) : xall (fun _ a => xBm a) 1 b s codez_1332 := And.intro mobz_1482 mobz_no
theorem mocodez_1333 (b s : Nat) : xall (fun _ a => xBm a) 2 b s codez_1333 := And.intro (mocodez_1331 b (2 * s)) (mocodez_1332 (b + s) (2 * s))
theorem mocodez_1334 (b s : Nat) : xall (fun _ a => xBm a) 1 b s codez_1334 := And.intro mobz_970 mobz_no
theorem mocodez_1335 (b s : Nat) : xall (fun _ a => xBm a) 1 b s codez_1335 := And.intro mobz_1994 mobz_no
theorem mocodez_1336 (b s : Nat) : xall (fun _ a => xBm a) 2 b s codez_1336 := And.intro (mocodez_1334 b (2 * s)) (mocodez_1335 (b + s) (2 * s))
theorem mocodez_1337 (b s : Nat) : xall (fun _ a => xBm a) 3 b s codez_1337 := And.intro (mocodez_1333 b (2 * s)) (mocodez_1336 (b + s) (2 * s))
theorem mocodez_1338 (b s : Nat) : xall (fun _ a => xBm a) 4 b s codez_1338 := And.intro (mocodez_1330 b (2 * s)) (mocodez_1337 (b + s) (2 * s))
theorem mocodez_1339 (b s : Nat) : xall (fun _ a => xBm a) 5 b s codez_1339 := And.intro (mocodez_1323 b (2 * s)) (mocodez_1338 (b + s) (2 * s))
theorem mocodez_1340 (b s : Nat) : xall (fun _ a => xBm a) 6 b s codez_1340 := And.intro (mocodez_1308 b (2 * s)) (mocodez_1339 (b + s) (2 * s))
theorem mocodez_1341 (b s : Nat) : xall (fun _ a => xBm a) 1 b s codez_1341 := And.intro mobz_42 mobz_2090
theorem mocodez_1342 (b s : Nat) : xall (fun _ a => xBm a) 1 b s codez_1342 := And.intro mobz_1066 mobz_no
theorem mocodez_1343 (b s : Nat) : xall (fun _ a => xBm a) 2 b s codez_1343 := And.intro (mocodez_1341 b (2 * s)) (mocodez_1342 (b + s) (2 * s))
theorem mocodez_1344 (b s : Nat) : xall (fun _ a => xBm a) 1 b s codez_1344 := And.intro mobz_554 mobz_no
theorem mocodez_1345 (b s : Nat) : xall (fun _ a => xBm a) 1 b s codez_1345 := And.intro mobz_1578 mobz_no
theorem mocodez_1346 (b s : Nat) : xall (fun _ a => xBm a) 2 b s codez_1346 := And.intro (mocodez_1344 b (2 * s)) (mocodez_1345 (b + s) (2 * s))
theorem mocodez_1347 (b s : Nat) : xall (fun _ a => xBm a) 3 b s codez_1347 := And.intro (mocodez_1343 b (2 * s)) (mocodez_1346 (b + s) (2 * s))
theorem mocodez_1348 (b s : Nat) : xall (fun _ a => xBm a) 1 b s codez_1348 := And.intro mobz_298 mobz_2346
theorem mocodez_1349 (b s : Nat) : xall (fun _ a => xBm a) 1 b s codez_1349 := And.intro mobz_1322 mobz_no
theorem mocodez_1350 (b s : Nat) : xall (fun _ a => xBm a) 2 b s codez_1350 := And.intro (mocodez_1348 b (2 * s)) (mocodez_1349 (b + s) (2 * s))
theorem mocodez_1351 (b s : Nat) : xall (fun _ a => xBm a) 1 b s codez_1351 := And.intro mobz_810 mobz_no
theorem mocodez_1352 (b s : Nat) : xall (fun _ a => xBm a) 1 b s codez_1352 := And.intro mobz_1834 mobz_no
theorem mocodez_1353 (b s : Nat) : xall (fun _ a => xBm a) 2 b s codez_1353 := And.intro (mocodez_1351 b (2 * s)) (mocodez_1352 (b + s) (2 * s))
theorem mocodez_1354 (b s : Nat) : xall (fun _ a => xBm a) 3 b s codez_1354 := And.intro (mocodez_1350 b (2 * s)) (mocodez_1353 (b + s) (2 * s))
theorem mocodez_1355 (b s : Nat) : xall (fun _ a => xBm a) 4 b s codez_1355 := And.intro (mocodez_1347 b (2 * s)) (mocodez_1354 (b + s) (2 * s))
theorem mocodez_1356 (b s : Nat) : xall (fun _ a => xBm a) 1 b s codez_1356 := And.intro mobz_170 mobz_2218
theorem mocodez_1357 (b s : Nat) : xall (fun _ a => xBm a) 1 b s codez_1357 := And.intro mobz_1194 mobz_no
theorem mocodez_1358 (b s : Nat) : xall (fun _ a => xBm a) 2 b s codez_1358 := And.intro (mocodez_1356 b (2 * s)) (mocodez_1357 (b + s) (2 * s))
theorem mocodez_1359 (b s : Nat) : xall (fun _ a => xBm a) 1 b s codez_1359 := And.intro mobz_682 mobz_no
theorem mocodez_1360 (b s : Nat) : xall (fun _ a => xBm a) 1 b s codez_1360 := And.intro mobz_1706 mobz_no
theorem mocodez_1361 (b s : Nat) : xall (fun _ a => xBm a) 2 b s codez_1361 := And.intro (mocodez_1359 b (2 * s)) (mocodez_1360 (b + s) (2 * s))
theorem mocodez_1362 (b s : Nat) : xall (fun _ a => xBm a) 3 b s codez_1362 := And.intro (mocodez_1358 b (2 * s)) (mocodez_1361 (b + s) (2 * s))
theorem mocodez_1363 (b s : Nat) : xall (fun _ a => xBm a) 1 b s codez_1363 := And.intro mobz_426 mobz_2474
theorem mocodez_1364 (b s : Nat) : xall (fun _ a => xBm a) 1 b s codez_1364 := And.intro mobz_1450 mobz_no
theorem mocodez_1365 (b s : Nat) : xall (fun _ a => xBm a) 2 b s codez_1365 := And.intro (mocodez_1363 b (2 * s)) (mocodez_1364 (b + s) (2 * s))
theorem mocodez_1366 (b s : Nat) : xall (fun _ a => xBm a) 1 b s codez_1366 := And.intro mobz_938 mobz_no
theorem mocodez_1367 (b s : Nat) : xall (fun _ a => xBm a) 1 b s codez_1367 := And.intro mobz_1962 mobz_no
theorem mocodez_1368 (b s : Nat) : xall (fun _ a => xBm a) 2 b s codez_1368 := And.intro (mocodez_1366 b (2 * s)) (mocodez_1367 (b + s) (2 * s))
theorem mocodez_1369 (b s : Nat) : xall (fun _ a => xBm a) 3 b s codez_1369 := And.intro (mocodez_1365 b (2 * s)) (mocodez_1368 (b + s) (2 * s))
theorem mocodez_1370 (b s : Nat) : xall (fun _ a => xBm a) 4 b s codez_1370 := And.intro (mocodez_1362 b (2 * s)) (mocodez_1369 (b + s) (2 * s))
theorem mocodez_1371 (b s : Nat) : xall (fun _ a => xBm a) 5 b s codez_1371 := And.intro (mocodez_1355 b (2 * s)) (mocodez_1370 (b + s) (2 * s))
theorem mocodez_1372 (b s : Nat) : xall (fun _ a => xBm a) 1 b s codez_1372 := And.intro mobz_106 mobz_2154
theorem mocodez_1373 (b s : Nat) : xall (fun _ a => xBm a) 1 b s codez_1373 := And.intro mobz_1130 mobz_no
theorem mocodez_1374 (b s : Nat) : xall (fun _ a => xBm a) 2 b s codez_1374 := And.intro (mocodez_1372 b (2 * s)) (mocodez_1373 (b + s) (2 * s))
theorem mocodez_1375 (b s : Nat) : xall (fun _ a => xBm a) 1 b s codez_1375 := And.intro mobz_618 mobz_no
theorem mocodez_1376 (b s : Nat) : xall (fun _ a => xBm a) 1 b s codez_1376 := And.intro mobz_1642 mobz_no
theorem mocodez_1377 (b s : Nat) : xall (fun _ a => xBm a) 2 b s codez_1377 := And.intro (mocodez_1375 b (2 * s)) (mocodez_1376 (b + s) (2 * s))
theorem mocodez_1378 (b s : Nat) : xall (fun _ a => xBm a) 3 b s codez_1378 := And.intro (mocodez_1374 b (2 * s)) (mocodez_1377 (b + s) (2 * s))
theorem mocodez_1379 (b s : Nat) : xall (fun _ a => xBm a) 1 b s codez_1379 := And.intro mobz_362 mobz_2410
theorem mocodez_1380 (b s : Nat) : xall (fun _ a => xBm a) 1 b s codez_1380 := And.intro mobz_1386 mobz_no
theorem mocodez_1381 (b s : Nat) : xall (fun _ a => xBm a) 2 b s codez_1381 := And.intro (mocodez_1379 b (2 * s)) (mocodez_1380 (b + s) (2 * s))
theorem mocodez_1382 (b s : Nat) : xall (fun _ a => xBm a) 1 b s codez_1382 := And.intro mobz_874 mobz_no
theorem mocodez_1383 (b s : Nat) : xall (fun _ a => xBm a) 1 b s codez_1383 := And.intro mobz_1898 mobz_no
theorem mocodez_1384 (b s : Nat) : xall (fun _ a => xBm a) 2 b s codez_1384 := And.intro (mocodez_1382 b (2 * s)) (mocodez_1383 (b + s) (2 * s))
theorem mocodez_1385 (b s : Nat) : xall (fun _ a => xBm a) 3 b s codez_1385 := And.intro (mocodez_1381 b (2 * s)) (mocodez_1384 (b + s) (2 * s))
theorem mocodez_1386 (b s : Nat) : xall (fun _ a => xBm a) 4 b s codez_1386 := And.intro (mocodez_1378 b (2 * s)) (mocodez_1385 (b + s) (2 * s))
theorem mocodez_1387 (b s : Nat) : xall (fun _ a => xBm a) 1 b s codez_1387 := And.intro mobz_234 mobz_2282
theorem mocodez_1388 (b s : Nat) : xall (fun _ a => xBm a) 1 b s codez_1388 := And.intro mobz_1258 mobz_no
theorem mocodez_1389 (b s : Nat) : xall (fun _ a => xBm a) 2 b s codez_1389 := And.intro (mocodez_1387 b (2 * s)) (mocodez_1388 (b + s) (2 * s))
theorem mocodez_1390 (b s : Nat) : xall (fun _ a => xBm a) 1 b s codez_1390 := And.intro mobz_746 mobz_no
theorem mocodez_1391 (b s : Nat) : xall (fun _ a => xBm a) 1 b s codez_1391 := And.intro mobz_1770 mobz_no
theorem mocodez_1392 (b s : Nat) : xall (fun _ a => xBm a) 2 b s codez_1392 := And.intro (mocodez_1390 b (2 * s)) (mocodez_1391 (b + s) (2 * s))
theorem mocodez_1393 (b s : Nat) : xall (fun _ a => xBm a) 3 b s codez_1393 := And.intro (mocodez_1389 b (2 * s)) (mocodez_1392 (b + s) (2 * s))
theorem mocodez_1394 (b s : Nat) : xall (fun _ a => xBm a) 1 b s codez_1394 := And.intro mobz_490 mobz_2538
theorem mocodez_1395 (b s : Nat) : xall (fun _ a => xBm a) 1 b s codez_1395 := And.intro mobz_1514 mobz_no
theorem mocodez_1396 (b s : Nat) : xall (fun _ a => xBm a) 2 b s codez_1396 := And.intro (mocodez_1394 b (2 * s)) (mocodez_1395 (b + s) (2 * s))
theorem mocodez_1397 (b s : Nat) : xall (fun _ a => xBm a) 1 b s codez_1397 := And.intro mobz_1002 mobz_no
theorem mocodez_1398 (b s : Nat) : xall (fun _ a => xBm a) 1 b s codez_1398 := And.intro mobz_2026 mobz_no
theorem mocodez_1399 (b s : Nat) : xall (fun _ a => xBm a) 2 b s codez_1399 := And.intro (mocodez_1397 b (2 * s)) (mocodez_1398 (b + s) (2 * s))
theorem mocodez_1400 (b s : Nat) : xall (fun _ a => xBm a) 3 b s codez_1400 := And.intro (mocodez_1396 b (2 * s)) (mocodez_1399 (b + s) (2 * s))
theorem mocodez_1401 (b s : Nat) : xall (fun _ a => xBm a) 4 b s codez_1401 := And.intro (mocodez_1393 b (2 * s)) (mocodez_1400 (b + s) (2 * s))
theorem mocodez_1402 (b s : Nat) : xall (fun _ a => xBm a) 5 b s codez_1402 := And.intro (mocodez_1386 b (2 * s)) (mocodez_1401 (b + s) (2 * s))
theorem mocodez_1403 (b s : Nat) : xall (fun _ a => xBm a) 6 b s codez_1403 := And.intro (mocodez_1371 b (2 * s)) (mocodez_1402 (b + s) (2 * s))
theorem mocodez_1404 (b s : Nat) : xall (fun _ a => xBm a) 7 b s codez_1404 := And.intro (mocodez_1340 b (2 * s)) (mocodez_1403 (b + s) (2 * s))
theorem mocodez_1405 (b s : Nat) : xall (fun _ a => xBm a) 1 b s codez_1405 := And.intro mobz_26 mobz_2074
theorem mocodez_1406 (b s : Nat) : xall (fun _ a => xBm a) 1 b s codez_1406 := And.intro mobz_1050 mobz_no
theorem mocodez_1407 (b s : Nat) : xall (fun _ a => xBm a) 2 b s codez_1407 := And.intro (mocodez_1405 b (2 * s)) (mocodez_1406 (b + s) (2 * s))
theorem mocodez_1408 (b s : Nat) : xall (fun _ a => xBm a) 1 b s codez_1408 := And.intro mobz_538 mobz_no
theorem mocodez_1409 (b s : Nat) : xall (fun _ a => xBm a) 1 b s codez_1409 := And.intro mobz_1562 mobz_no
theorem mocodez_1410 (b s : Nat) : xall (fun _ a => xBm a) 2 b s codez_1410 := And.intro (mocodez_1408 b (2 * s)) (mocodez_1409 (b + s) (2 * s))
theorem mocodez_1411 (b s : Nat) : xall (fun _ a => xBm a) 3 b s codez_1411 := And.intro (mocodez_1407 b (2 * s)) (mocodez_1410 (b + s) (2 * s))
theorem mocodez_1412 (b s : Nat) : xall (fun _ a => xBm a) 1 b s codez_1412 := And.intro mobz_282 mobz_2330
theorem mocodez_1413 (b s : Nat) : xall (fun _ a => xBm a) 1 b s codez_1413 := And.intro mobz_1306 mobz_no
theorem mocodez_1414 (b s : Nat) : xall (fun _ a => xBm a) 2 b s codez_1414 := And.intro (mocodez_1412 b (2 * s)) (mocodez_1413 (b + s) (2 * s))
theorem mocodez_1415 (b s : Nat) : xall (fun _ a => xBm a) 1 b s codez_1415 := And.intro mobz_794 mobz_no
theorem mocodez_1416 (b s : Nat) : xall (fun _ a => xBm a) 1 b s codez_1416 := And.intro mobz_1818 mobz_no
theorem mocodez_1417 (b s : Nat) : xall (fun _ a => xBm a) 2 b s codez_1417 := And.intro (mocodez_1415 b (2 * s)) (mocodez_1416 (b + s) (2 * s))
theorem mocodez_1418 (b s : Nat) : xall (fun _ a => xBm a) 3 b s codez_1418 := And.intro (mocodez_1414 b (2 * s)) (mocodez_1417 (b + s) (2 * s))
theorem mocodez_1419 (b s : Nat) : xall (fun _ a => xBm a) 4 b s codez_1419 := And.intro (mocodez_1411 b (2 * s)) (mocodez_1418 (b + s) (2 * s))
theorem mocodez_1420 (b s : Nat) : xall (fun _ a => xBm a) 1 b s codez_1420 := And.intro mobz_154 mobz_2202
theorem mocodez_1421 (b s : Nat) : xall (fun _ a => xBm a) 1 b s codez_1421 := And.intro mobz_1178 mobz_no
theorem mocodez_1422 (b s : Nat) : xall (fun _ a => xBm a) 2 b s codez_1422 := And.intro (mocodez_1420 b (2 * s)) (mocodez_1421 (b + s) (2 * s))
theorem mocodez_1423 (b s : Nat) : xall (fun _ a => xBm a) 1 b s codez_1423 := And.intro mobz_666 mobz_no
theorem mocodez_1424 (b s : Nat) : xall (fun _ a => xBm a) 1 b s codez_1424 := And.intro mobz_1690 mobz_no
theorem mocodez_1425 (b s : Nat) : xall (fun _ a => xBm a) 2 b s codez_1425 := And.intro (mocodez_1423 b (2 * s)) (mocodez_1424 (b + s) (2 * s))
theorem mocodez_1426 (b s : Nat) : xall (fun _ a => xBm a) 3 b s codez_1426 := And.intro (mocodez_1422 b (2 * s)) (mocodez_1425 (b + s) (2 * s))
theorem mocodez_1427 (b s : Nat) : xall (fun _ a => xBm a) 1 b s codez_1427 := And.intro mobz_410 mobz_2458
theorem mocodez_1428 (b s : Nat) : xall (fun _ a => xBm a) 1 b s codez_1428 := And.intro mobz_1434 mobz_no
theorem mocodez_1429 (b s : Nat) : xall (fun _ a => xBm a) 2 b s codez_1429 := And.intro (mocodez_1427 b (2 * s)) (mocodez_1428 (b + s) (2 * s))
theorem mocodez_1430 (b s : Nat) : xall (fun _ a => xBm a) 1 b s codez_1430 := And.intro mobz_922 mobz_no
theorem mocodez_1431 (b s : Nat) : xall (fun _ a => xBm a) 1 b s codez_1431 := And.intro mobz_1946 mobz_no
theorem mocodez_1432 (b s : Nat) : xall (fun _ a => xBm a) 2 b s codez_1432 := And.intro (mocodez_1430 b (2 * s)) (mocodez_1431 (b + s) (2 * s))
theorem mocodez_1433 (b s : Nat) : xall (fun _ a => xBm a) 3 b s codez_1433 := And.intro (mocodez_1429 b (2 * s)) (mocodez_1432 (b + s) (2 * s))
theorem mocodez_1434 (b s : Nat) : xall (fun _ a => xBm a) 4 b s codez_1434 := And.intro (mocodez_1426 b (2 * s)) (mocodez_1433 (b + s) (2 * s))
theorem mocodez_1435 (b s : Nat) : xall (fun _ a => xBm a) 5 b s codez_1435 := And.intro (mocodez_1419 b (2 * s)) (mocodez_1434 (b + s) (2 * s))
theorem mocodez_1436 (b s : Nat) : xall (fun _ a => xBm a) 1 b s codez_1436 := And.intro mobz_90 mobz_2138
theorem mocodez_1437 (b s : Nat) : xall (fun _ a => xBm a) 1 b s codez_1437 := And.intro mobz_1114 mobz_no
theorem mocodez_1438 (b s : Nat) : xall (fun _ a => xBm a) 2 b s codez_1438 := And.intro (mocodez_1436 b (2 * s)) (mocodez_1437 (b + s) (2 * s))
theorem mocodez_1439 (b s : Nat) : xall (fun _ a => xBm a) 1 b s codez_1439 := And.intro mobz_602 mobz_no
theorem mocodez_1440 (b s : Nat) : xall (fun _ a => xBm a) 1 b s codez_1440 := And.intro mobz_1626 mobz_no
theorem mocodez_1441 (b s : Nat) : xall (fun _ a => xBm a) 2 b s codez_1441 := And.intro (mocodez_1439 b (2 * s)) (mocodez_1440 (b + s) (2 * s))
theorem mocodez_1442 (b s : Nat) : xall (fun _ a => xBm a) 3 b s codez_1442 := And.intro (mocodez_1438 b (2 * s)) (mocodez_1441 (b + s) (2 * s))
theorem mocodez_1443 (b s : Nat) : xall (fun _ a => xBm a) 1 b s codez_1443 := And.intro mobz_346 mobz_2394
theorem mocodez_1444 (b s : Nat) : xall (fun _ a => xBm a) 1 b s codez_1444 := And.intro mobz_1370 mobz_no
theorem mocodez_1445 (b s : Nat) : xall (fun _ a => xBm a) 2 b s codez_1445 := And.intro (mocodez_1443 b (2 * s)) (mocodez_1444 (b + s) (2 * s))
theorem mocodez_1446 (b s : Nat) : xall (fun _ a => xBm a) 1 b s codez_1446 := And.intro mobz_858 mobz_no
theorem mocodez_1447 (b s : Nat) : xall (fun _ a => xBm a) 1 b s codez_1447 := And.intro mobz_1882 mobz_no
theorem mocodez_1448 (b s : Nat) : xall (fun _ a => xBm a) 2 b s codez_1448 := And.intro (mocodez_1446 b (2 * s)) (mocodez_1447 (b + s) (2 * s))
theorem mocodez_1449 (b s : Nat) : xall (fun _ a => xBm a) 3 b s codez_1449 := And.intro (mocodez_1445 b (2 * s)) (mocodez_1448 (b + s) (2 * s))
theorem mocodez_1450 (b s : Nat) : xall (fun _ a => xBm a) 4 b s codez_1450 := And.intro (mocodez_1442 b (2 * s)) (mocodez_1449 (b + s) (2 * s))
theorem mocodez_1451 (b s : Nat) : xall (fun _ a => xBm a) 1 b s codez_1451 := And.intro mobz_218 mobz_2266
theorem mocodez_1452 (b s : Nat) : xall (fun _ a => xBm a) 1 b s codez_1452 := And.intro mobz_1242 mobz_no
theorem mocodez_1453 (b s : Nat) : xall (fun _ a => xBm a) 2 b s codez_1453 := And.intro (mocodez_1451 b (2 * s)) (mocodez_1452 (b + s) (2 * s))
theorem mocodez_1454 (b s : Nat) : xall (fun _ a => xBm a) 1 b s codez_1454 := And.intro mobz_730 mobz_no
theorem mocodez_1455 (b s : Nat) : xall (fun _ a => xBm a) 1 b s codez_1455 := And.intro mobz_1754 mobz_no
theorem mocodez_1456 (b s : Nat) : xall (fun _ a => xBm a) 2 b s codez_1456 := And.intro (mocodez_1454 b (2 * s)) (mocodez_1455 (b + s) (2 * s))
theorem mocodez_1457 (b s : Nat) : xall (fun _ a => xBm a) 3 b s codez_1457 := And.intro (mocodez_1453 b (2 * s)) (mocodez_1456 (b + s) (2 * s))
theorem mocodez_1458 (b s : Nat) : xall (fun _ a => xBm a) 1 b s codez_1458 := And.intro mobz_474 mobz_2522
theorem mocodez_1459 (b s : Nat) : xall (fun _ a => xBm a) 1 b s codez_1459 := And.intro mobz_1498 mobz_no
theorem mocodez_1460 (b s : Nat) : xall (fun _ a => xBm a) 2 b s codez_1460 := And.intro (mocodez_1458 b (2 * s)) (mocodez_1459 (b + s) (2 * s))
theorem mocodez_1461 (b s : Nat) : xall (fun _ a => xBm a) 1 b s codez_1461 := And.intro mobz_986 mobz_no
theorem mocodez_1462 (b s : Nat) : xall (fun _ a => xBm a) 1 b s codez_1462 := And.intro mobz_2010 mobz_no
theorem mocodez_1463 (b s : Nat) : xall (fun _ a => xBm a) 2 b s codez_1463 := And.intro (mocodez_1461 b (2 * s)) (mocodez_1462 (b + s) (2 * s))
theorem mocodez_1464 (b s : Nat) : xall (fun _ a => xBm a) 3 b s codez_1464 := And.intro (mocodez_1460 b (2 * s)) (mocodez_1463 (b + s) (2 * s))
theorem mocodez_1465 (b s : Nat) : xall (fun _ a => xBm a) 4 b s codez_1465 := And.intro (mocodez_1457 b (2 * s)) (mocodez_1464 (b + s) (2 * s))
theorem mocodez_1466 (b s : Nat) : xall (fun _ a => xBm a) 5 b s codez_1466 := And.intro (mocodez_1450 b (2 * s)) (mocodez_1465 (b + s) (2 * s))
theorem mocodez_1467 (b s : Nat) : xall (fun _ a => xBm a) 6 b s codez_1467 := And.intro (mocodez_1435 b (2 * s)) (mocodez_1466 (b + s) (2 * s))
theorem mocodez_1468 (b s : Nat) : xall (fun _ a => xBm a) 1 b s codez_1468 := And.intro mobz_58 mobz_2106
theorem mocodez_1469 (b s : Nat) : xall (fun _ a => xBm a) 1 b s codez_1469 := And.intro mobz_1082 mobz_no
theorem mocodez_1470 (b s : Nat) : xall (fun _ a => xBm a) 2 b s codez_1470 := And.intro (mocodez_1468 b (2 * s)) (mocodez_1469 (b + s) (2 * s))
theorem mocodez_1471 (b s : Nat) : xall (fun _ a => xBm a) 1 b s codez_1471 := And.intro mobz_570 mobz_no
theorem mocodez_1472 (b s : Nat) : xall (fun _ a => xBm a) 1 b s codez_1472 := And.intro mobz_1594 mobz_no
theorem mocodez_1473 (b s : Nat) : xall (fun _ a => xBm a) 2 b s codez_1473 := And.intro (mocodez_1471 b (2 * s)) (mocodez_1472 (b + s) (2 * s))
theorem mocodez_1474 (b s : Nat) : xall (fun _ a => xBm a) 3 b s codez_1474 := And.intro (mocodez_1470 b (2 * s)) (mocodez_1473 (b + s) (2 * s))
theorem mocodez_1475 (b s : Nat) : xall (fun _ a => xBm a) 1 b s codez_1475 := And.intro mobz_314 mobz_2362
theorem mocodez_1476 (b s : Nat) : xall (fun _ a => xBm a) 1 b s codez_1476 := And.intro mobz_1338 mobz_no
theorem mocodez_1477 (b s : Nat) : xall (fun _ a => xBm a) 2 b s codez_1477 := And.intro (mocodez_1475 b (2 * s)) (mocodez_1476 (b + s) (2 * s))
theorem mocodez_1478 (b s : Nat) : xall (fun _ a => xBm a) 1 b s codez_1478 := And.intro mobz_826 mobz_no
theorem mocodez_1479 (b s : Nat) : xall (fun _ a => xBm a) 1 b s codez_1479 := And.intro mobz_1850 mobz_no
theorem mocodez_1480 (b s : Nat) : xall (fun _ a => xBm a) 2 b s codez_1480 := And.intro (mocodez_1478 b (2 * s)) (mocodez_1479 (b + s) (2 * s))
theorem mocodez_1481 (b s : Nat) : xall (fun _ a => xBm a) 3 b s codez_1481 := And.intro (mocodez_1477 b (2 * s)) (mocodez_1480 (b + s) (2 * s))
theorem mocodez_1482 (b s : Nat) : xall (fun _ a => xBm a) 4 b s codez_1482 := And.intro (mocodez_1474 b (2 * s)) (mocodez_1481 (b + s) (2 * s))
theorem mocodez_1483 (b s : Nat) : xall (fun _ a => xBm a) 1 b s codez_1483 := And.intro mobz_186 mobz_2234
theorem mocodez_1484 (b s : Nat) : xall (fun _ a => xBm a) 1 b s codez_1484 := And.intro mobz_1210 mobz_no
theorem mocodez_1485 (b s : Nat) : xall (fun _ a => xBm a) 2 b s codez_1485 := And.intro (mocodez_1483 b (2 * s)) (mocodez_1484 (b + s) (2 * s))
theorem mocodez_1486 (b s : Nat) : xall (fun _ a => xBm a) 1 b s codez_1486 := And.intro mobz_698 mobz_no
theorem mocodez_1487 (b s : Nat) : xall (fun _ a => xBm a) 1 b s codez_1487 := And.intro mobz_1722 mobz_no
theorem mocodez_1488 (b s : Nat) : xall (fun _ a => xBm a) 2 b s codez_1488 := And.intro (mocodez_1486 b (2 * s)) (mocodez_1487 (b + s) (2 * s))
theorem mocodez_1489 (b s : Nat) : xall (fun _ a => xBm a) 3 b s codez_1489 := And.intro (mocodez_1485 b (2 * s)) (mocodez_1488 (b + s) (2 * s))
theorem mocodez_1490 (b s : Nat) : xall (fun _ a => xBm a) 1 b s codez_1490 := And.intro mobz_442 mobz_2490
theorem mocodez_1491 (b s : Nat) : xall (fun _ a => xBm a) 1 b s codez_1491 := And.intro mobz_1466 mobz_no
theorem mocodez_1492 (b s : Nat) : xall (fun _ a => xBm a) 2 b s codez_1492 := And.intro (mocodez_1490 b (2 * s)) (mocodez_1491 (b + s) (2 * s))
theorem mocodez_1493 (b s : Nat) : xall (fun _ a => xBm a) 1 b s codez_1493 := And.intro mobz_954 mobz_no
theorem mocodez_1494 (b s : Nat) : xall (fun _ a => xBm a) 1 b s codez_1494 := And.intro mobz_1978 mobz_no
theorem mocodez_1495 (b s : Nat) : xall (fun _ a => xBm a) 2 b s codez_1495 := And.intro (mocodez_1493 b (2 * s)) (mocodez_1494 (b + s) (2 * s))
theorem mocodez_1496 (b s : Nat) : xall (fun _ a => xBm a) 3 b s codez_1496 := And.intro (mocodez_1492 b (2 * s)) (mocodez_1495 (b + s) (2 * s))
theorem mocodez_1497 (b s : Nat) : xall (fun _ a => xBm a) 4 b s codez_1497 := And.intro (mocodez_1489 b (2 * s)) (mocodez_1496 (b + s) (2 * s))
theorem mocodez_1498 (b s : Nat) : xall (fun _ a => xBm a) 5 b s codez_1498 := And.intro (mocodez_1482 b (2 * s)) (mocodez_1497 (b + s) (2 * s))
theorem mocodez_1499 (b s : Nat) : xall (fun _ a => xBm a) 1 b s codez_1499 := And.intro mobz_122 mobz_2170
theorem mocodez_1500 (b s : Nat) : xall (fun _ a => xBm a) 1 b s codez_1500 := And.intro mobz_1146 mobz_no
theorem mocodez_1501 (b s : Nat) : xall (fun _ a => xBm a) 2 b s codez_1501 := And.intro (mocodez_1499 b (2 * s)) (mocodez_1500 (b + s) (2 * s))
theorem mocodez_1502 (b s : Nat) : xall (fun _ a => xBm a) 1 b s codez_1502 := And.intro mobz_634 mobz_no
theorem mocodez_1503 (b s : Nat) : xall (fun _ a => xBm a) 1 b s codez_1503 := And.intro mobz_1658 mobz_no
theorem mocodez_1504 (b s : Nat) : xall (fun _ a => xBm a) 2 b s codez_1504 := And.intro (mocodez_1502 b (2 * s)) (mocodez_1503 (b + s) (2 * s))
theorem mocodez_1505 (b s : Nat) : xall (fun _ a => xBm a) 3 b s codez_1505 := And.intro (mocodez_1501 b (2 * s)) (mocodez_1504 (b + s) (2 * s))
theorem mocodez_1506 (b s : Nat) : xall (fun _ a => xBm a) 1 b s codez_1506 := And.intro mobz_378 mobz_2426
theorem mocodez_1507 (b s : Nat) : xall (fun _ a => xBm a) 1 b s codez_1507 := And.intro mobz_1402 mobz_no
theorem mocodez_1508 (b s : Nat) : xall (fun _ a => xBm a) 2 b s codez_1508 := And.intro (mocodez_1506 b (2 * s)) (mocodez_1507 (b + s) (2 * s))
theorem mocodez_1509 (b s : Nat) : xall (fun _ a => xBm a) 1 b s codez_1509 := And.intro mobz_890 mobz_no
theorem mocodez_1510 (b s : Nat) : xall (fun _ a => xBm a) 1 b s codez_1510 := And.intro mobz_1914 mobz_no
theorem mocodez_1511 (b s : Nat) : xall (fun _ a => xBm a) 2 b s codez_1511 := And.intro (mocodez_1509 b (2 * s)) (mocodez_1510 (b + s) (2 * s))
theorem mocodez_1512 (b s : Nat) : xall (fun _ a => xBm a) 3 b s codez_1512 := And.intro (mocodez_1508 b (2 * s)) (mocodez_1511 (b + s) (2 * s))
theorem mocodez_1513 (b s : Nat) : xall (fun _ a => xBm a) 4 b s codez_1513 := And.intro (mocodez_1505 b (2 * s)) (mocodez_1512 (b + s) (2 * s))
theorem mocodez_1514 (b s : Nat) : xall (fun _ a => xBm a) 1 b s codez_1514 := And.intro mobz_250 mobz_2298
theorem mocodez_1515 (b s : Nat) : xall (fun _ a => xBm a) 1 b s codez_1515 := And.intro mobz_1274 mobz_no
theorem mocodez_1516 (b s : Nat) : xall (fun _ a => xBm a) 2 b s codez_1516 := And.intro (mocodez_1514 b (2 * s)) (mocodez_1515 (b + s) (2 * s))
theorem mocodez_1517 (b s : Nat) : xall (fun _ a => xBm a) 1 b s codez_1517 := And.intro mobz_762 mobz_no
theorem mocodez_1518 (b s : Nat) : xall (fun _ a => xBm a) 1 b s codez_1518 := And.intro mobz_1786 mobz_no
theorem mocodez_1519 (b s : Nat) : xall (fun _ a => xBm a) 2 b s codez_1519 := And.intro (mocodez_1517 b (2 * s)) (mocodez_1518 (b + s) (2 * s))
theorem mocodez_1520 (b s : Nat) : xall (fun _ a => xBm a) 3 b s codez_1520 := And.intro (mocodez_1516 b (2 * s)) (mocodez_1519 (b + s) (2 * s))
theorem mocodez_1521 (b s : Nat) : xall (fun _ a => xBm a) 1 b s codez_1521 := And.intro mobz_506 mobz_no
theorem mocodez_1522 (b s : Nat) : xall (fun _ a => xBm a) 1 b s codez_1522 := And.intro mobz_1530 mobz_no
theorem mocodez_1523 (b s : Nat) : xall (fun _ a => xBm a) 2 b s codez_1523 := And.intro (mocodez_1521 b (2 * s)) (mocodez_1522 (b + s) (2 * s))
theorem mocodez_1524 (b s : Nat) : xall (fun _ a => xBm a) 1 b s codez_1524 := And.intro mobz_1018 mobz_no
theorem mocodez_1525 (b s : Nat) : xall (fun _ a => xBm a) 1 b s codez_1525 := And.intro mobz_2042 mobz_no
theorem mocodez_1526 (b s : Nat) : xall (fun _ a => xBm a) 2 b s codez_1526 := And.intro (mocodez_1524 b (2 * s)) (mocodez_1525 (b + s) (2 * s))
theorem mocodez_1527 (b s : Nat) : xall (fun _ a => xBm a) 3 b s codez_1527 := And.intro (mocodez_1523 b (2 * s)) (mocodez_1526 (b + s) (2 * s))
theorem mocodez_1528 (b s : Nat) : xall (fun _ a => xBm a) 4 b s codez_1528 := And.intro (mocodez_1520 b (2 * s)) (mocodez_1527 (b + s) (2 * s))
theorem mocodez_1529 (b s : Nat) : xall (fun _ a => xBm a) 5 b s codez_1529 := And.intro (mocodez_1513 b (2 * s)) (mocodez_1528 (b + s) (2 * s))
theorem mocodez_1530 (b s : Nat) : xall (fun _ a => xBm a) 6 b s codez_1530 := And.intro (mocodez_1498 b (2 * s)) (mocodez_1529 (b + s) (2 * s))
theorem mocodez_1531 (b s : Nat) : xall (fun _ a => xBm a) 7 b s codez_1531 := And.intro (mocodez_1467 b (2 * s)) (mocodez_1530 (b + s) (2 * s))
theorem mocodez_1532 (b s : Nat) : xall (fun _ a => xBm a) 8 b s codez_1532 := And.intro (mocodez_1404 b (2 * s)) (mocodez_1531 (b + s) (2 * s))
theorem mocodez_1533 (b s : Nat) : xall (fun _ a => xBm a) 9 b s codez_1533 := And.intro (mocodez_1277 b (2 * s)) (mocodez_1532 (b + s) (2 * s))
theorem mocodez_1534 (b s : Nat) : xall (fun _ a => xBm a) 1 b s codez_1534 := And.intro mobz_6 mobz_2054
theorem mocodez_1535 (b s : Nat) : xall (fun _ a => xBm a) 1 b s codez_1535 := And.intro mobz_1030 mobz_no
theorem mocodez_1536 (b s : Nat) : xall (fun _ a => xBm a) 2 b s codez_1536 := And.intro (mocodez_1534 b (2 * s)) (mocodez_1535 (b + s) (2 * s))
theorem mocodez_1537 (b s : Nat) : xall (fun _ a => xBm a) 1 b s codez_1537 := And.intro mobz_518 mobz_no
theorem mocodez_1538 (b s : Nat) : xall (fun _ a => xBm a) 1 b s codez_1538 := And.intro mobz_1542 mobz_no
theorem mocodez_1539 (b s : Nat) : xall (fun _ a => xBm a) 2 b s codez_1539 := And.intro (mocodez_1537 b (2 * s)) (mocodez_1538 (b + s) (2 * s))
theorem mocodez_1540 (b s : Nat) : xall (fun _ a => xBm a) 3 b s codez_1540 := And.intro (mocodez_1536 b (2 * s)) (mocodez_1539 (b + s) (2 * s))
theorem mocodez_1541 (b s : Nat) : xall (fun _ a => xBm a) 1 b s codez_1541 := And.intro mobz_262 mobz_2310
theorem mocodez_1542 (b s : Nat) : xall (fun _ a => xBm a) 1 b s codez_1542 := And.intro mobz_1286 mobz_no
theorem mocodez_1543 (b s : Nat) : xall (fun _ a => xBm a) 2 b s codez_1543 := And.intro (mocodez_1541 b (2 * s)) (mocodez_1542 (b + s) (2 * s))
theorem mocodez_1544 (b s : Nat) : xall (fun _ a => xBm a) 1 b s codez_1544 := And.intro mobz_774 mobz_no
theorem mocodez_1545 (b s : Nat) : xall (fun _ a => xBm a) 1 b s codez_1545 := And.intro mobz_1798 mobz_no
theorem mocodez_1546 (b s : Nat) : xall (fun _ a => xBm a) 2 b s codez_1546 := And.intro (mocodez_1544 b (2 * s)) (mocodez_1545 (b + s) (2 * s))
theorem mocodez_1547 (b s : Nat) : xall (fun _ a => xBm a) 3 b s codez_1547 := And.intro (mocodez_1543 b (2 * s)) (mocodez_1546 (b + s) (2 * s))
theorem mocodez_1548 (b s : Nat) : xall (fun _ a => xBm a) 4 b s codez_1548 := And.intro (mocodez_1540 b (2 * s)) (mocodez_1547 (b + s) (2 * s))
theorem mocodez_1549 (b s : Nat) : xall (fun _ a => xBm a) 1 b s codez_1549 := And.intro mobz_134 mobz_2182
theorem mocodez_1550 (b s : Nat) : xall (fun _ a => xBm a) 1 b s codez_1550 := And.intro mobz_1158 mobz_no
theorem mocodez_1551 (b s : Nat) : xall (fun _ a => xBm a) 2 b s codez_1551 := And.intro (mocodez_1549 b (2 * s)) (mocodez_1550 (b + s) (2 * s))
theorem mocodez_1552 (b s : Nat) : xall (fun _ a => xBm a) 1 b s codez_1552 := And.intro mobz_646 mobz_no
theorem mocodez_1553 (b s : Nat) : xall (fun _ a => xBm a) 1 b s codez_1553 := And.intro mobz_1670 mobz_no
theorem mocodez_1554 (b s : Nat) : xall (fun _ a => xBm a) 2 b s codez_1554 := And.intro (mocodez_1552 b (2 * s)) (mocodez_1553 (b + s) (2 * s))
theorem mocodez_1555 (b s : Nat) : xall (fun _ a => xBm a) 3 b s codez_1555 := And.intro (mocodez_1551 b (2 * s)) (mocodez_1554 (b + s) (2 * s))
theorem mocodez_1556 (b s : Nat) : xall (fun _ a => xBm a) 1 b s codez_1556 := And.intro mobz_390 mobz_2438
theorem mocodez_1557 (b s : Nat) : xall (fun _ a => xBm a) 1 b s codez_1557 := And.intro mobz_1414 mobz_no
theorem mocodez_1558 (b s : Nat) : xall (fun _ a => xBm a) 2 b s codez_1558 := And.intro (mocodez_1556 b (2 * s)) (mocodez_1557 (b + s) (2 * s))
theorem mocodez_1559 (b s : Nat) : xall (fun _ a => xBm a) 1 b s codez_1559 := And.intro mobz_902 mobz_no
theorem mocodez_1560 (b s : Nat) : xall (fun _ a => xBm a) 1 b s codez_1560 := And.intro mobz_1926 mobz_no
theorem mocodez_1561 (b s : Nat) : xall (fun _ a => xBm a) 2 b s codez_1561 := And.intro (mocodez_1559 b (2 * s)) (mocodez_1560 (b + s) (2 * s))
theorem mocodez_1562 (b s : Nat) : xall (fun _ a => xBm a) 3 b s codez_1562 := And.intro (mocodez_1558 b (2 * s)) (mocodez_1561 (b + s) (2 * s))
theorem mocodez_1563 (b s : Nat) : xall (fun _ a => xBm a) 4 b s codez_1563 := And.intro (mocodez_1555 b (2 * s)) (mocodez_1562 (b + s) (2 * s))
theorem mocodez_1564 (b s : Nat) : xall (fun _ a => xBm a) 5 b s codez_1564 := And.intro (mocodez_1548 b (2 * s)) (mocodez_1563 (b + s) (2 * s))
theorem mocodez_1565 (b s : Nat) : xall (fun _ a => xBm a) 1 b s codez_1565 := And.intro mobz_70 mobz_2118
theorem mocodez_1566 (b s : Nat) : xall (fun _ a => xBm a) 1 b s codez_1566 := And.intro mobz_1094 mobz_no
theorem mocodez_1567 (b s : Nat) : xall (fun _ a => xBm a) 2 b s codez_1567 := And.intro (mocodez_1565 b (2 * s)) (mocodez_1566 (b + s) (2 * s))
theorem mocodez_1568 (b s : Nat) : xall (fun _ a => xBm a) 1 b s codez_1568 := And.intro mobz_582 mobz_no
theorem mocodez_1569 (b s : Nat) : xall (fun _ a => xBm a) 1 b s codez_1569 := And.intro mobz_1606 mobz_no
theorem mocodez_1570 (b s : Nat) : xall (fun _ a => xBm a) 2 b s codez_1570 := And.intro (mocodez_1568 b (2 * s)) (mocodez_1569 (b + s) (2 * s))
theorem mocodez_1571 (b s : Nat) : xall (fun _ a => xBm a) 3 b s codez_1571 := And.intro (mocodez_1567 b (2 * s)) (mocodez_1570 (b + s) (2 * s))
theorem mocodez_1572 (b s : Nat) : xall (fun _ a => xBm a) 1 b s codez_1572 := And.intro mobz_326 mobz_2374
theorem mocodez_1573 (b s : Nat) : xall (fun _ a => xBm a) 1 b s codez_1573 := And.intro mobz_1350 mobz_no
theorem mocodez_1574 (b s : Nat) : xall (fun _ a => xBm a) 2 b s codez_1574 := And.intro (mocodez_1572 b (2 * s)) (mocodez_1573 (b + s) (2 * s))
theorem mocodez_1575 (b s : Nat) : xall (fun _ a => xBm a) 1 b s codez_1575 := And.intro mobz_838 mobz_no
theorem mocodez_1576 (b s : Nat) : xall (fun _ a => xBm a) 1 b s codez_1576 := And.intro mobz_1862 mobz_no
theorem mocodez_1577 (b s : Nat) : xall (fun _ a => xBm a) 2 b s codez_1577 := And.intro (mocodez_1575 b (2 * s)) (mocodez_1576 (b + s) (2 * s))
theorem mocodez_1578 (b s : Nat) : xall (fun _ a => xBm a) 3 b s codez_1578 := And.intro (mocodez_1574 b (2 * s)) (mocodez_1577 (b + s) (2 * s))
theorem mocodez_1579 (b s : Nat) : xall (fun _ a => xBm a) 4 b s codez_1579 := And.intro (mocodez_1571 b (2 * s)) (mocodez_1578 (b + s) (2 * s))
theorem mocodez_1580 (b s : Nat) : xall (fun _ a => xBm a) 1 b s codez_1580 := And.intro mobz_198 mobz_2246
theorem mocodez_1581 (b s : Nat) : xall (fun _ a => xBm a) 1 b s codez_1581 := And.intro mobz_1222 mobz_no
theorem mocodez_1582 (b s : Nat) : xall (fun _ a => xBm a) 2 b s codez_1582 := And.intro (mocodez_1580 b (2 * s)) (mocodez_1581 (b + s) (2 * s))
theorem mocodez_1583 (b s : Nat) : xall (fun _ a => xBm a) 1 b s codez_1583 := And.intro mobz_710 mobz_no
theorem mocodez_1584 (b s : Nat) : xall (fun _ a => xBm a) 1 b s codez_1584 := And.intro mobz_1734 mobz_no
theorem mocodez_1585 (b s : Nat) : xall (fun _ a => xBm a) 2 b s codez_1585 := And.intro (mocodez_1583 b (2 * s)) (mocodez_1584 (b + s) (2 * s))
theorem mocodez_1586 (b s : Nat) : xall (fun _ a => xBm a) 3 b s codez_1586 := And.intro (mocodez_1582 b (2 * s)) (mocodez_1585 (b + s) (2 * s))
theorem mocodez_1587 (b s : Nat) : xall (fun _ a => xBm a) 1 b s codez_1587 := And.intro mobz_454 mobz_2502
theorem mocodez_1588 (b s : Nat) : xall (fun _ a => xBm a) 1 b s codez_1588 := And.intro mobz_1478 mobz_no
theorem mocodez_1589 (b s : Nat) : xall (fun _ a => xBm a) 2 b s codez_1589 := And.intro (mocodez_1587 b (2 * s)) (mocodez_1588 (b + s) (2 * s))
theorem mocodez_1590 (b s : Nat) : xall (fun _ a => xBm a) 1 b s codez_1590 := And.intro mobz_966 mobz_no
theorem mocodez_1591 (b s : Nat) : xall (fun _ a => xBm a) 1 b s codez_1591 := And.intro mobz_1990 mobz_no
theorem mocodez_1592 (b s : Nat) : xall (fun _ a => xBm a) 2 b s codez_1592 := And.intro (mocodez_1590 b (2 * s)) (mocodez_1591 (b + s) (2 * s))
theorem mocodez_1593 (b s : Nat) : xall (fun _ a => xBm a) 3 b s codez_1593 := And.intro (mocodez_1589 b (2 * s)) (mocodez_1592 (b + s) (2 * s))
theorem mocodez_1594 (b s : Nat) : xall (fun _ a => xBm a) 4 b s codez_1594 := And.intro (mocodez_1586 b (2 * s)) (mocodez_1593 (b + s) (2 * s))
theorem mocodez_1595 (b s : Nat) : xall (fun _ a => xBm a) 5 b s codez_1595 := And.intro (mocodez_1579 b (2 * s)) (mocodez_1594 (b + s) (2 * s))
theorem mocodez_1596 (b s : Nat) : xall (fun _ a => xBm a) 6 b s codez_1596 := And.intro (mocodez_1564 b (2 * s)) (mocodez_1595 (b + s) (2 * s))
theorem mocodez_1597 (b s : Nat) : xall (fun _ a => xBm a) 1 b s codez_1597 := And.intro mobz_38 mobz_2086
theorem mocodez_1598 (b s : Nat) : xall (fun _ a => xBm a) 1 b s codez_1598 := And.intro mobz_1062 mobz_no
theorem mocodez_1599 (b s : Nat) : xall (fun _ a => xBm a) 2 b s codez_1599 := And.intro (mocodez_1597 b (2 * s)) (mocodez_1598 (b + s) (2 * s))
theorem mocodez_1600 (b s : Nat) : xall (fun _ a => xBm a) 1 b s codez_1600 := And.intro mobz_550 mobz_no
theorem mocodez_1601 (b s : Nat) : xall (fun _ a => xBm a) 1 b s codez_1601 := And.intro mobz_1574 mobz_no
theorem mocodez_1602 (b s : Nat) : xall (fun _ a => xBm a) 2 b s codez_1602 := And.intro (mocodez_1600 b (2 * s)) (mocodez_1601 (b + s) (2 * s))
theorem mocodez_1603 (b s : Nat) : xall (fun _ a => xBm a) 3 b s codez_1603 := And.intro (mocodez_1599 b (2 * s)) (mocodez_1602 (b + s) (2 * s))
theorem mocodez_1604 (b s : Nat) : xall (fun _ a => xBm a) 1 b s codez_1604 := And.intro mobz_294 mobz_2342
theorem mocodez_1605 (b s : Nat) : xall (fun _ a => xBm a) 1 b s codez_1605 := And.intro mobz_1318 mobz_no
theorem mocodez_1606 (b s : Nat) : xall (fun _ a => xBm a) 2 b s codez_1606 := And.intro (mocodez_1604 b (2 * s)) (mocodez_1605 (b + s) (2 * s))
theorem mocodez_1607 (b s : Nat) : xall (fun _ a => xBm a) 1 b s codez_1607 := And.intro mobz_806 mobz_no
theorem mocodez_1608 (b s : Nat) : xall (fun _ a => xBm a) 1 b s codez_1608 := And.intro mobz_1830 mobz_no
theorem mocodez_1609 (b s : Nat) : xall (fun _ a => xBm a) 2 b s codez_1609 := And.intro (mocodez_1607 b (2 * s)) (mocodez_1608 (b + s) (2 * s))
theorem mocodez_1610 (b s : Nat) : xall (fun _ a => xBm a) 3 b s codez_1610 := And.intro (mocodez_1606 b (2 * s)) (mocodez_1609 (b + s) (2 * s))
theorem mocodez_1611 (b s : Nat) : xall (fun _ a => xBm a) 4 b s codez_1611 := And.intro (mocodez_1603 b (2 * s)) (mocodez_1610 (b + s) (2 * s))
theorem mocodez_1612 (b s : Nat) : xall (fun _ a => xBm a) 1 b s codez_1612 := And.intro mobz_166 mobz_2214
theorem mocodez_1613 (b s : Nat) : xall (fun _ a => xBm a) 1 b s codez_1613 := And.intro mobz_1190 mobz_no
theorem mocodez_1614 (b s : Nat) : xall (fun _ a => xBm a) 2 b s codez_1614 := And.intro (mocodez_1612 b (2 * s)) (mocodez_1613 (b + s) (2 * s))
theorem mocodez_1615 (b s : Nat) : xall (fun _ a => xBm a) 1 b s codez_1615 := And.intro mobz_678 mobz_no
theorem mocodez_1616 (b s : Nat) : xall (fun _ a => xBm a) 1 b s codez_1616 := And.intro mobz_1702 mobz_no
theorem mocodez_1617 (b s : Nat) : xall (fun _ a => xBm a) 2 b s codez_1617 := And.intro (mocodez_1615 b (2 * s)) (mocodez_1616 (b + s) (2 * s))
theorem mocodez_1618 (b s : Nat) : xall (fun _ a => xBm a) 3 b s codez_1618 := And.intro (mocodez_1614 b (2 * s)) (mocodez_1617 (b + s) (2 * s))
theorem mocodez_1619 (b s : Nat) : xall (fun _ a => xBm a) 1 b s codez_1619 := And.intro mobz_422 mobz_2470
theorem mocodez_1620 (b s : Nat) : xall (fun _ a => xBm a) 1 b s codez_1620 := And.intro mobz_1446 mobz_no
theorem mocodez_1621 (b s : Nat) : xall (fun _ a => xBm a) 2 b s codez_1621 := And.intro (mocodez_1619 b (2 * s)) (mocodez_1620 (b + s) (2 * s))
theorem mocodez_1622 (b s : Nat) : xall (fun _ a => xBm a) 1 b s codez_1622 := And.intro mobz_934 mobz_no
theorem mocodez_1623 (b s : Nat) : xall (fun _ a => xBm a) 1 b s codez_1623 := And.intro mobz_1958 mobz_no
theorem mocodez_1624 (b s : Nat) : xall (fun _ a => xBm a) 2 b s codez_1624 := And.intro (mocodez_1622 b (2 * s)) (mocodez_1623 (b + s) (2 * s))
theorem mocodez_1625 (b s : Nat) : xall (fun _ a => xBm a) 3 b s codez_1625 := And.intro (mocodez_1621 b (2 * s)) (mocodez_1624 (b + s) (2 * s))
theorem mocodez_1626 (b s : Nat) : xall (fun _ a => xBm a) 4 b s codez_1626 := And.intro (mocodez_1618 b (2 * s)) (mocodez_1625 (b + s) (2 * s))
theorem mocodez_1627 (b s : Nat) : xall (fun _ a => xBm a) 5 b s codez_1627 := And.intro (mocodez_1611 b (2 * s)) (mocodez_1626 (b + s) (2 * s))
theorem mocodez_1628 (b s : Nat) : xall (fun _ a => xBm a) 1 b s codez_1628 := And.intro mobz_102 mobz_2150
theorem mocodez_1629 (b s : Nat) : xall (fun _ a => xBm a) 1 b s codez_1629 := And.intro mobz_1126 mobz_no
theorem mocodez_1630 (b s : Nat) : xall (fun _ a => xBm a) 2 b s codez_1630 := And.intro (mocodez_1628 b (2 * s)) (mocodez_1629 (b + s) (2 * s))
theorem mocodez_1631 (b s : Nat) : xall (fun _ a => xBm a) 1 b s codez_1631 := And.intro mobz_614 mobz_no
theorem mocodez_1632 (b s : Nat) : xall (fun _ a => xBm a) 1 b s codez_1632 := And.intro mobz_1638 mobz_no
theorem mocodez_1633 (b s : Nat) : xall (fun _ a => xBm a) 2 b s codez_1633 := And.intro (mocodez_1631 b (2 * s)) (mocodez_1632 (b + s) (2 * s))
theorem mocodez_1634 (b s : Nat) : xall (fun _ a => xBm a) 3 b s codez_1634 := And.intro (mocodez_1630 b (2 * s)) (mocodez_1633 (b + s) (2 * s))
theorem mocodez_1635 (b s : Nat) : xall (fun _ a => xBm a) 1 b s codez_1635 := And.intro mobz_358 mobz_2406
theorem mocodez_1636 (b s : Nat) : xall (fun _ a => xBm a) 1 b s codez_1636 := And.intro mobz_1382 mobz_no
theorem mocodez_1637 (b s : Nat) : xall (fun _ a => xBm a) 2 b s codez_1637 := And.intro (mocodez_1635 b (2 * s)) (mocodez_1636 (b + s) (2 * s))
theorem mocodez_1638 (b s : Nat) : xall (fun _ a => xBm a) 1 b s codez_1638 := And.intro mobz_870 mobz_no
theorem mocodez_1639 (b s : Nat) : xall (fun _ a => xBm a) 1 b s codez_1639 := And.intro mobz_1894 mobz_no
theorem mocodez_1640 (b s : Nat) : xall (fun _ a => xBm a) 2 b s codez_1640 := And.intro (mocodez_1638 b (2 * s)) (mocodez_1639 (b + s) (2 * s))
theorem mocodez_1641 (b s : Nat) : xall (fun _ a => xBm a) 3 b s codez_1641 := And.intro (mocodez_1637 b (2 * s)) (mocodez_1640 (b + s) (2 * s))
theorem mocodez_1642 (b s : Nat) : xall (fun _ a => xBm a) 4 b s codez_1642 := And.intro (mocodez_1634 b (2 * s)) (mocodez_1641 (b + s) (2 * s))
theorem mocodez_1643 (b s : Nat) : xall (fun _ a => xBm a) 1 b s codez_1643 := And.intro mobz_230 mobz_2278
theorem mocodez_1644 (b s : Nat) : xall (fun _ a => xBm a) 1 b s codez_1644 := And.intro mobz_1254 mobz_no
theorem mocodez_1645 (b s : Nat) : xall (fun _ a => xBm a) 2 b s codez_1645 := And.intro (mocodez_1643 b (2 * s)) (mocodez_1644 (b + s) (2 * s))
theorem mocodez_1646 (b s : Nat) : xall (fun _ a => xBm a) 1 b s codez_1646 := And.intro mobz_742 mobz_no
theorem mocodez_1647 (b s : Nat) : xall (fun _ a => xBm a) 1 b s codez_1647 := And.intro mobz_1766 mobz_no
theorem mocodez_1648 (b s : Nat) : xall (fun _ a => xBm a) 2 b s codez_1648 := And.intro (mocodez_1646 b (2 * s)) (mocodez_1647 (b + s) (2 * s))
theorem mocodez_1649 (b s : Nat) : xall (fun _ a => xBm a) 3 b s codez_1649 := And.intro (mocodez_1645 b (2 * s)) (mocodez_1648 (b + s) (2 * s))
theorem mocodez_1650 (b s : Nat) : xall (fun _ a => xBm a) 1 b s codez_1650 := And.intro mobz_486 mobz_2534
theorem mocodez_1651 (b s : Nat) : xall (fun _ a => xBm a) 1 b s codez_1651 := And.intro mobz_1510 mobz_no
theorem mocodez_1652 (b s : Nat) : xall (fun _ a => xBm a) 2 b s codez_1652 := And.intro (mocodez_1650 b (2 * s)) (mocodez_1651 (b + s) (2 * s))
theorem mocodez_1653 (b s : Nat) : xall (fun _ a => xBm a) 1 b s codez_1653 := And.intro mobz_998 mobz_no
theorem mocodez_1654 (b s : Nat) : xall (fun _ a => xBm a) 1 b s codez_1654 := And.intro mobz_2022 mobz_no
theorem mocodez_1655 (b s : Nat) : xall (fun _ a => xBm a) 2 b s codez_1655 := And.intro (mocodez_1653 b (2 * s)) (mocodez_1654 (b + s) (2 * s))
theorem mocodez_1656 (b s : Nat) : xall (fun _ a => xBm a) 3 b s codez_1656 := And.intro (mocodez_1652 b (2 * s)) (mocodez_1655 (b + s) (2 * s))
theorem mocodez_1657 (b s : Nat) : xall (fun _ a => xBm a) 4 b s codez_1657 := And.intro (mocodez_1649 b (2 * s)) (mocodez_1656 (b + s) (2 * s))
theorem mocodez_1658 (b s : Nat) : xall (fun _ a => xBm a) 5 b s codez_1658 := And.intro (mocodez_1642 b (2 * s)) (mocodez_1657 (b + s) (2 * s))
theorem mocodez_1659 (b s : Nat) : xall (fun _ a => xBm a) 6 b s codez_1659 := And.intro (mocodez_1627 b (2 * s)) (mocodez_1658 (b + s) (2 * s))
theorem mocodez_1660 (b s : Nat) : xall (fun _ a => xBm a) 7 b s codez_1660 := And.intro (mocodez_1596 b (2 * s)) (mocodez_1659 (b + s) (2 * s))
theorem mocodez_1661 (b s : Nat) : xall (fun _ a => xBm a) 1 b s codez_1661 := And.intro mobz_22 mobz_2070
theorem mocodez_1662 (b s : Nat) : xall (fun _ a => xBm a) 1 b s codez_1662 := And.intro mobz_1046 mobz_no
theorem mocodez_1663 (b s : Nat) : xall (fun _ a => xBm a) 2 b s codez_1663 := And.intro (mocodez_1661 b (2 * s)) (mocodez_1662 (b + s) (2 * s))
theorem mocodez_1664 (b s : Nat) : xall (fun _ a => xBm a) 1 b s codez_1664 := And.intro mobz_534 mobz_no
theorem mocodez_1665 (b s : Nat) : xall (fun _ a => xBm a) 1 b s codez_1665 := And.intro mobz_1558 mobz_no
theorem mocodez_1666 (b s : Nat) : xall (fun _ a => xBm a) 2 b s codez_1666 := And.intro (mocodez_1664 b (2 * s)) (mocodez_1665 (b + s) (2 * s))
theorem mocodez_1667 (b s : Nat) : xall (fun _ a => xBm a) 3 b s codez_1667 := And.intro (mocodez_1663 b (2 * s)) (mocodez_1666 (b + s) (2 * s))
theorem mocodez_1668 (b s : Nat) : xall (fun _ a => xBm a) 1 b s codez_1668 := And.intro mobz_278 mobz_2326
theorem mocodez_1669 (b s : Nat) : xall (fun _ a => xBm a) 1 b s codez_1669 := And.intro mobz_1302 mobz_no
theorem mocodez_1670 (b s : Nat) : xall (fun _ a => xBm a) 2 b s codez_1670 := And.intro (mocodez_1668 b (2 * s)) (mocodez_1669 (b + s) (2 * s))
theorem mocodez_1671 (b s : Nat) : xall (fun _ a => xBm a) 1 b s codez_1671 := And.intro mobz_790 mobz_no
theorem mocodez_1672 (b s : Nat) : xall (fun _ a => xBm a) 1 b s codez_1672 := And.intro mobz_1814 mobz_no
theorem mocodez_1673 (b s : Nat) : xall (fun _ a => xBm a) 2 b s codez_1673 := And.intro (mocodez_1671 b (2 * s)) (mocodez_1672 (b + s) (2 * s))
theorem mocodez_1674 (b s : Nat) : xall (fun _ a => xBm a) 3 b s codez_1674 := And.intro (mocodez_1670 b (2 * s)) (mocodez_1673 (b + s) (2 * s))
theorem mocodez_1675 (b s : Nat) : xall (fun _ a => xBm a) 4 b s codez_1675 := And.intro (mocodez_1667 b (2 * s)) (mocodez_1674 (b + s) (2 * s))
theorem mocodez_1676 (b s : Nat) : xall (fun _ a => xBm a) 1 b s codez_1676 := And.intro mobz_150 mobz_2198
theorem mocodez_1677 (b s : Nat) : xall (fun _ a => xBm a) 1 b s codez_1677 := And.intro mobz_1174 mobz_no
theorem mocodez_1678 (b s : Nat) : xall (fun _ a => xBm a) 2 b s codez_1678 := And.intro (mocodez_1676 b (2 * s)) (mocodez_1677 (b + s) (2 * s))
theorem mocodez_1679 (b s : Nat) : xall (fun _ a => xBm a) 1 b s codez_1679 := And.intro mobz_662 mobz_no
theorem mocodez_1680 (b s : Nat) : xall (fun _ a => xBm a) 1 b s codez_1680 := And.intro mobz_1686 mobz_no
theorem mocodez_1681 (b s : Nat) : xall (fun _ a => xBm a) 2 b s codez_1681 := And.intro (mocodez_1679 b (2 * s)) (mocodez_1680 (b + s) (2 * s))
theorem mocodez_1682 (b s : Nat) : xall (fun _ a => xBm a) 3 b s codez_1682 := And.intro (mocodez_1678 b (2 * s)) (mocodez_1681 (b + s) (2 * s))
theorem mocodez_1683 (b s : Nat) : xall (fun _ a => xBm a) 1 b s codez_1683 := And.intro mobz_406 mobz_2454
theorem mocodez_1684 (b s : Nat) : xall (fun _ a => xBm a) 1 b s codez_1684 := And.intro mobz_1430 mobz_no
theorem mocodez_1685 (b s : Nat) : xall (fun _ a => xBm a) 2 b s codez_1685 := And.intro (mocodez_1683 b (2 * s)) (mocodez_1684 (b + s) (2 * s))
theorem mocodez_1686 (b s : Nat) : xall (fun _ a => xBm a) 1 b s codez_1686 := And.intro mobz_918 mobz_no
theorem mocodez_1687 (b s : Nat) : xall (fun _ a => xBm a) 1 b s codez_1687 := And.intro mobz_1942 mobz_no
theorem mocodez_1688 (b s : Nat) : xall (fun _ a => xBm a) 2 b s codez_1688 := And.intro (mocodez_1686 b (2 * s)) (mocodez_1687 (b + s) (2 * s))
theorem mocodez_1689 (b s : Nat) : xall (fun _ a => xBm a) 3 b s codez_1689 := And.intro (mocodez_1685 b (2 * s)) (mocodez_1688 (b + s) (2 * s))
theorem mocodez_1690 (b s : Nat) : xall (fun _ a => xBm a) 4 b s codez_1690 := And.intro (mocodez_1682 b (2 * s)) (mocodez_1689 (b + s) (2 * s))
theorem mocodez_1691 (b s : Nat) : xall (fun _ a => xBm a) 5 b s codez_1691 := And.intro (mocodez_1675 b (2 * s)) (mocodez_1690 (b + s) (2 * s))
theorem mocodez_1692 (b s : Nat) : xall (fun _ a => xBm a) 1 b s codez_1692 := And.intro mobz_86 mobz_2134
theorem mocodez_1693 (b s : Nat) : xall (fun _ a => xBm a) 1 b s codez_1693 := And.intro mobz_1110 mobz_no
theorem mocodez_1694 (b s : Nat) : xall (fun _ a => xBm a) 2 b s codez_1694 := And.intro (mocodez_1692 b (2 * s)) (mocodez_1693 (b + s) (2 * s))
theorem mocodez_1695 (b s : Nat) : xall (fun _ a => xBm a) 1 b s codez_1695 := And.intro mobz_598 mobz_no
theorem mocodez_1696 (b s : Nat) : xall (fun _ a => xBm a) 1 b s codez_1696 := And.intro mobz_1622 mobz_no
theorem mocodez_1697 (b s : Nat) : xall (fun _ a => xBm a) 2 b s codez_1697 := And.intro (mocodez_1695 b (2 * s)) (mocodez_1696 (b + s) (2 * s))
theorem mocodez_1698 (b s : Nat) : xall (fun _ a => xBm a) 3 b s codez_1698 := And.intro (mocodez_1694 b (2 * s)) (mocodez_1697 (b + s) (2 * s))
theorem mocodez_1699 (b s : Nat) : xall (fun _ a => xBm a) 1 b s codez_1699 := And.intro mobz_342 mobz_2390
theorem mocodez_1700 (b s : Nat) : xall (fun _ a => xBm a) 1 b s codez_1700 := And.intro mobz_1366 mobz_no
theorem mocodez_1701 (b s : Nat) : xall (fun _ a => xBm a) 2 b s codez_1701 := And.intro (mocodez_1699 b (2 * s)) (mocodez_1700 (b + s) (2 * s))
theorem mocodez_1702 (b s : Nat) : xall (fun _ a => xBm a) 1 b s codez_1702 := And.intro mobz_854 mobz_no
theorem mocodez_1703 (b s : Nat) : xall (fun _ a => xBm a) 1 b s codez_1703 := And.intro mobz_1878 mobz_no
theorem mocodez_1704 (b s : Nat) : xall (fun _ a => xBm a) 2 b s codez_1704 := And.intro (mocodez_1702 b (2 * s)) (mocodez_1703 (b + s) (2 * s))
theorem mocodez_1705 (b s : Nat) : xall (fun _ a => xBm a) 3 b s codez_1705 := And.intro (mocodez_1701 b (2 * s)) (mocodez_1704 (b + s) (2 * s))
theorem mocodez_1706 (b s : Nat) : xall (fun _ a => xBm a) 4 b s codez_1706 := And.intro (mocodez_1698 b (2 * s)) (mocodez_1705 (b + s) (2 * s))
theorem mocodez_1707 (b s : Nat) : xall (fun _ a => xBm a) 1 b s codez_1707 := And.intro mobz_214 mobz_2262
theorem mocodez_1708 (b s : Nat) : xall (fun _ a => xBm a) 1 b s codez_1708 := And.intro mobz_1238 mobz_no
theorem mocodez_1709 (b s : Nat) : xall (fun _ a => xBm a) 2 b s codez_1709 := And.intro (mocodez_1707 b (2 * s)) (mocodez_1708 (b + s) (2 * s))
theorem mocodez_1710 (b s : Nat) : xall (fun _ a => xBm a) 1 b s codez_1710 := And.intro mobz_726 mobz_no
theorem mocodez_1711 (b s : Nat) : xall (fun _ a => xBm a) 1 b s codez_1711 := And.intro mobz_1750 mobz_no
theorem mocodez_1712 (b s : Nat) : xall (fun _ a => xBm a) 2 b s codez_1712 := And.intro (mocodez_1710 b (2 * s)) (mocodez_1711 (b + s) (2 * s))
theorem mocodez_1713 (b s : Nat) : xall (fun _ a => xBm a) 3 b s codez_1713 := And.intro (mocodez_1709 b (2 * s)) (mocodez_1712 (b + s) (2 * s))
theorem mocodez_1714 (b s : Nat) : xall (fun _ a => xBm a) 1 b s codez_1714 := And.intro mobz_470 mobz_2518
theorem mocodez_1715 (b s : Nat) : xall (fun _ a => xBm a) 1 b s codez_1715 := And.intro mobz_1494 mobz_no
theorem mocodez_1716 (b s : Nat) : xall (fun _ a => xBm a) 2 b s codez_1716 := And.intro (mocodez_1714 b (2 * s)) (mocodez_1715 (b + s) (2 * s))
theorem mocodez_1717 (b s : Nat) : xall (fun _ a => xBm a) 1 b s codez_1717 := And.intro mobz_982 mobz_no
theorem mocodez_1718 (b s : Nat) : xall (fun _ a => xBm a) 1 b s codez_1718 := And.intro mobz_2006 mobz_no
theorem mocodez_1719 (b s : Nat) : xall (fun _ a => xBm a) 2 b s codez_1719 := And.intro (mocodez_1717 b (2 * s)) (mocodez_1718 (b + s) (2 * s))
theorem mocodez_1720 (b s : Nat) : xall (fun _ a => xBm a) 3 b s codez_1720 := And.intro (mocodez_1716 b (2 * s)) (mocodez_1719 (b + s) (2 * s))
theorem mocodez_1721 (b s : Nat) : xall (fun _ a => xBm a) 4 b s codez_1721 := And.intro (mocodez_1713 b (2 * s)) (mocodez_1720 (b + s) (2 * s))
theorem mocodez_1722 (b s : Nat) : xall (fun _ a => xBm a) 5 b s codez_1722 := And.intro (mocodez_1706 b (2 * s)) (mocodez_1721 (b + s) (2 * s))
theorem mocodez_1723 (b s : Nat) : xall (fun _ a => xBm a) 6 b s codez_1723 := And.intro (mocodez_1691 b (2 * s)) (mocodez_1722 (b + s) (2 * s))
theorem mocodez_1724 (b s : Nat) : xall (fun _ a => xBm a) 1 b s codez_1724 := And.intro mobz_54 mobz_2102
theorem mocodez_1725 (b s : Nat) : xall (fun _ a => xBm a) 1 b s codez_1725 := And.intro mobz_1078 mobz_no
theorem mocodez_1726 (b s : Nat) : xall (fun _ a => xBm a) 2 b s codez_1726 := And.intro (mocodez_1724 b (2 * s)) (mocodez_1725 (b + s) (2 * s))
theorem mocodez_1727 (b s : Nat) : xall (fun _ a => xBm a) 1 b s codez_1727 := And.intro mobz_566 mobz_no
theorem mocodez_1728 (b s : Nat) : xall (fun _ a => xBm a) 1 b s codez_1728 := And.intro mobz_1590 mobz_no
theorem mocodez_1729 (b s : Nat) : xall (fun _ a => xBm a) 2 b s codez_1729 := And.intro (mocodez_1727 b (2 * s)) (mocodez_1728 (b + s) (2 * s))
theorem mocodez_1730 (b s : Nat) : xall (fun _ a => xBm a) 3 b s codez_1730 := And.intro (mocodez_1726 b (2 * s)) (mocodez_1729 (b + s) (2 * s))
theorem mocodez_1731 (b s : Nat) : xall (fun _ a => xBm a) 1 b s codez_1731 := And.intro mobz_310 mobz_2358
theorem mocodez_1732 (b s : Nat) : xall (fun _ a => xBm a) 1 b s codez_1732 := And.intro mobz_1334 mobz_no
theorem mocodez_1733 (b s : Nat) : xall (fun _ a => xBm a) 2 b s codez_1733 := And.intro (mocodez_1731 b (2 * s)) (mocodez_1732 (b + s) (2 * s))
theorem mocodez_1734 (b s : Nat) : xall (fun _ a => xBm a) 1 b s codez_1734 := And.intro mobz_822 mobz_no
theorem mocodez_1735 (b s : Nat) : xall (fun _ a => xBm a) 1 b s codez_1735 := And.intro mobz_1846 mobz_no
theorem mocodez_1736 (b s : Nat) : xall (fun _ a => xBm a) 2 b s codez_1736 := And.intro (mocodez_1734 b (2 * s)) (mocodez_1735 (b + s) (2 * s))
theorem mocodez_1737 (b s : Nat) : xall (fun _ a => xBm a) 3 b s codez_1737 := And.intro (mocodez_1733 b (2 * s)) (mocodez_1736 (b + s) (2 * s))
theorem mocodez_1738 (b s : Nat) : xall (fun _ a => xBm a) 4 b s codez_1738 := And.intro (mocodez_1730 b (2 * s)) (mocodez_1737 (b + s) (2 * s))
theorem mocodez_1739 (b s : Nat) : xall (fun _ a => xBm a) 1 b s codez_1739 := And.intro mobz_182 mobz_2230
theorem mocodez_1740 (b s : Nat) : xall (fun _ a => xBm a) 1 b s codez_1740 := And.intro mobz_1206 mobz_no
theorem mocodez_1741 (b s : Nat) : xall (fun _ a => xBm a) 2 b s codez_1741 := And.intro (mocodez_1739 b (2 * s)) (mocodez_1740 (b + s) (2 * s))
theorem mocodez_1742 (b s : Nat) : xall (fun _ a => xBm a) 1 b s codez_1742 := And.intro mobz_694 mobz_no
theorem mocodez_1743 (b s : Nat) : xall (fun _ a => xBm a) 1 b s codez_1743 := And.intro mobz_1718 mobz_no
theorem mocodez_1744 (b s : Nat) : xall (fun _ a => xBm a) 2 b s codez_1744 := And.intro (mocodez_1742 b (2 * s)) (mocodez_1743 (b + s) (2 * s))
theorem mocodez_1745 (b s : Nat) : xall (fun _ a => xBm a) 3 b s codez_1745 := And.intro (mocodez_1741 b (2 * s)) (mocodez_1744 (b + s) (2 * s))
theorem mocodez_1746 (b s : Nat) : xall (fun _ a => xBm a) 1 b s codez_1746 := And.intro mobz_438 mobz_2486
theorem mocodez_1747 (b s : Nat) : xall (fun _ a => xBm a) 1 b s codez_1747 := And.intro mobz_1462 mobz_no
theorem mocodez_1748 (b s : Nat) : xall (fun _ a => xBm a) 2 b s codez_1748 := And.intro (mocodez_1746 b (2 * s)) (mocodez_1747 (b + s) (2 * s))
theorem mocodez_1749 (b s : Nat) : xall (fun _ a => xBm a) 1 b s codez_1749 := And.intro mobz_950 mobz_no
theorem mocodez_1750 (b s : Nat) : xall (fun _ a => xBm a) 1 b s codez_1750 := And.intro mobz_1974 mobz_no
theorem mocodez_1751 (b s : Nat) : xall (fun _ a => xBm a) 2 b s codez_1751 := And.intro (mocodez_1749 b (2 * s)) (mocodez_1750 (b + s) (2 * s))
theorem mocodez_1752 (b s : Nat) : xall (fun _ a => xBm a) 3 b s codez_1752 := And.intro (mocodez_1748 b (2 * s)) (mocodez_1751 (b + s) (2 * s))
theorem mocodez_1753 (b s : Nat) : xall (fun _ a => xBm a) 4 b s codez_1753 := And.intro (mocodez_1745 b (2 * s)) (mocodez_1752 (b + s) (2 * s))
theorem mocodez_1754 (b s : Nat) : xall (fun _ a => xBm a) 5 b s codez_1754 := And.intro (mocodez_1738 b (2 * s)) (mocodez_1753 (b + s) (2 * s))
theorem mocodez_1755 (b s : Nat) : xall (fun _ a => xBm a) 1 b s codez_1755 := And.intro mobz_118 mobz_2166
theorem mocodez_1756 (b s : Nat) : xall (fun _ a => xBm a) 1 b s codez_1756 := And.intro mobz_1142 mobz_no
theorem mocodez_1757 (b s : Nat) : xall (fun _ a => xBm a) 2 b s codez_1757 := And.intro (mocodez_1755 b (2 * s)) (mocodez_1756 (b + s) (2 * s))
theorem mocodez_1758 (b s : Nat) : xall (fun _ a => xBm a) 1 b s codez_1758 := And.intro mobz_630 mobz_no
theorem mocodez_1759 (b s : Nat) : xall (fun _ a => xBm a) 1 b s codez_1759 := And.intro mobz_1654 mobz_no
theorem mocodez_1760 (b s : Nat) : xall (fun _ a => xBm a) 2 b s codez_1760 := And.intro (mocodez_1758 b (2 * s)) (mocodez_1759 (b + s) (2 * s))
theorem mocodez_1761 (b s : Nat) : xall (fun _ a => xBm a) 3 b s codez_1761 := And.intro (mocodez_1757 b (2 * s)) (mocodez_1760 (b + s) (2 * s))
theorem mocodez_1762 (b s : Nat) : xall (fun _ a => xBm a) 1 b s codez_1762 := And.intro mobz_374 mobz_2422
theorem mocodez_1763 (b s : Nat) : xall (fun _ a => xBm a) 1 b s codez_1763 := And.intro mobz_1398 mobz_no
theorem mocodez_1764 (b s : Nat) : xall (fun _ a => xBm a) 2 b s codez_1764 := And.intro (mocodez_1762 b (2 * s)) (mocodez_1763 (b + s) (2 * s))
theorem mocodez_1765 (b s : Nat) : xall (fun _ a => xBm a) 1 b s codez_1765 := And.intro mobz_886 mobz_no
theorem mocodez_1766 (b s : Nat) : xall (fun _ a => xBm a) 1 b s codez_1766 := And.intro mobz_1910 mobz_no
theorem mocodez_1767 (b s : Nat) : xall (fun _ a => xBm a) 2 b s codez_1767 := And.intro (mocodez_1765 b (2 * s)) (mocodez_1766 (b + s) (2 * s))
theorem mocodez_1768 (b s : Nat) : xall (fun _ a => xBm a) 3 b s codez_1768 := And.intro (mocodez_1764 b (2 * s)) (mocodez_1767 (b + s) (2 * s))
theorem mocodez_1769 (b s : Nat) : xall (fun _ a => xBm a) 4 b s codez_1769 := And.intro (mocodez_1761 b (2 * s)) (mocodez_1768 (b + s) (2 * s))
theorem mocodez_1770 (b s : Nat) : xall (fun _ a => xBm a) 1 b s codez_1770 := And.intro mobz_246 mobz_2294
theorem mocodez_1771 (b s : Nat) : xall (fun _ a => xBm a) 1 b s codez_1771 := And.intro mobz_1270 mobz_no
theorem mocodez_1772 (b s : Nat) : xall (fun _ a => xBm a) 2 b s codez_1772 := And.intro (mocodez_1770 b (2 * s)) (mocodez_1771 (b + s) (2 * s))
theorem mocodez_1773 (b s : Nat) : xall (fun _ a => xBm a) 1 b s codez_1773 := And.intro mobz_758 mobz_no
theorem mocodez_1774 (b s : Nat) : xall (fun _ a => xBm a) 1 b s codez_1774 := And.intro mobz_1782 mobz_no
theorem mocodez_1775 (b s : Nat) : xall (fun _ a => xBm a) 2 b s codez_1775 := And.intro (mocodez_1773 b (2 * s)) (mocodez_1774 (b + s) (2 * s))
theorem mocodez_1776 (b s : Nat) : xall (fun _ a => xBm a) 3 b s codez_1776 := And.intro (mocodez_1772 b (2 * s)) (mocodez_1775 (b + s) (2 * s))
theorem mocodez_1777 (b s : Nat) : xall (fun _ a => xBm a) 1 b s codez_1777 := And.intro mobz_502 mobz_no
theorem mocodez_1778 (b s : Nat) : xall (fun _ a => xBm a) 1 b s codez_1778 := And.intro mobz_1526 mobz_no
theorem mocodez_1779 (b s : Nat) : xall (fun _ a => xBm a) 2 b s codez_1779 := And.intro (mocodez_1777 b (2 * s)) (mocodez_1778 (b + s) (2 * s))
theorem mocodez_1780 (b s : Nat) : xall (fun _ a => xBm a) 1 b s codez_1780 := And.intro mobz_1014 mobz_no
theorem mocodez_1781 (b s : Nat) : xall (fun _ a => xBm a) 1 b s codez_1781 := And.intro mobz_2038 mobz_no
theorem mocodez_1782 (b s : Nat) : xall (fun _ a => xBm a) 2 b s codez_1782 := And.intro (mocodez_1780 b (2 * s)) (mocodez_1781 (b + s) (2 * s))
theorem mocodez_1783 (b s : Nat) : xall (fun _ a => xBm a) 3 b s codez_1783 := And.intro (mocodez_1779 b (2 * s)) (mocodez_1782 (b + s) (2 * s))
theorem mocodez_1784 (b s : Nat) : xall (fun _ a => xBm a) 4 b s codez_1784 := And.intro (mocodez_1776 b (2 * s)) (mocodez_1783 (b + s) (2 * s))
theorem mocodez_1785 (b s : Nat) : xall (fun _ a => xBm a) 5 b s codez_1785 := And.intro (mocodez_1769 b (2 * s)) (mocodez_1784 (b + s) (2 * s))
theorem mocodez_1786 (b s : Nat) : xall (fun _ a => xBm a) 6 b s codez_1786 := And.intro (mocodez_1754 b (2 * s)) (mocodez_1785 (b + s) (2 * s))
theorem mocodez_1787 (b s : Nat) : xall (fun _ a => xBm a) 7 b s codez_1787 := And.intro (mocodez_1723 b (2 * s)) (mocodez_1786 (b + s) (2 * s))
theorem mocodez_1788 (b s : Nat) : xall (fun _ a => xBm a) 8 b s codez_1788 := And.intro (mocodez_1660 b (2 * s)) (mocodez_1787 (b + s) (2 * s))
theorem mocodez_1789 (b s : Nat) : xall (fun _ a => xBm a) 1 b s codez_1789 := And.intro mobz_14 mobz_2062
theorem mocodez_1790 (b s : Nat) : xall (fun _ a => xBm a) 1 b s codez_1790 := And.intro mobz_1038 mobz_no
theorem mocodez_1791 (b s : Nat) : xall (fun _ a => xBm a) 2 b s codez_1791 := And.intro (mocodez_1789 b (2 * s)) (mocodez_1790 (b + s) (2 * s))
theorem mocodez_1792 (b s : Nat) : xall (fun _ a => xBm a) 1 b s codez_1792 := And.intro mobz_526 mobz_no
theorem mocodez_1793 (b s : Nat) : xall (fun _ a => xBm a) 1 b s codez_1793 := And.intro mobz_1550 mobz_no
theorem mocodez_1794 (b s : Nat) : xall (fun _ a => xBm a) 2 b s codez_1794 := And.intro (mocodez_1792 b (2 * s)) (mocodez_1793 (b + s) (2 * s))
theorem mocodez_1795 (b s : Nat) : xall (fun _ a => xBm a) 3 b s codez_1795 := And.intro (mocodez_1791 b (2 * s)) (mocodez_1794 (b + s) (2 * s))
theorem mocodez_1796 (b s : Nat) : xall (fun _ a => xBm a) 1 b s codez_1796 := And.intro mobz_270 mobz_2318
theorem mocodez_1797 (b s : Nat) : xall (fun _ a => xBm a) 1 b s codez_1797 := And.intro mobz_1294 mobz_no
theorem mocodez_1798 (b s : Nat) : xall (fun _ a => xBm a) 2 b s codez_1798 := And.intro (mocodez_1796 b (2 * s)) (mocodez_1797 (b + s) (2 * s))
theorem mocodez_1799 (b s : Nat) : xall (fun _ a => xBm a) 1 b s codez_1799 := And.intro mobz_782 mobz_no
theorem mocodez_1800 (b s : Nat) : xall (fun _ a => xBm a) 1 b s codez_1800 := And.intro mobz_1806 mobz_no
theorem mocodez_1801 (b s : Nat) : xall (fun _ a => xBm a) 2 b s codez_1801 := And.intro (mocodez_1799 b (2 * s)) (mocodez_1800 (b + s) (2 * s))
theorem mocodez_1802 (b s : Nat) : xall (fun _ a => xBm a) 3 b s codez_1802 := And.intro (mocodez_1798 b (2 * s)) (mocodez_1801 (b + s) (2 * s))
theorem mocodez_1803 (b s : Nat) : xall (fun _ a => xBm a) 4 b s codez_1803 := And.intro (mocodez_1795 b (2 * s)) (mocodez_1802 (b + s) (2 * s))
theorem mocodez_1804 (b s : Nat) : xall (fun _ a => xBm a) 1 b s codez_1804 := And.intro mobz_142 mobz_2190
theorem mocodez_1805 (b s : Nat) : xall (fun _ a => xBm a) 1 b s codez_1805 := And.intro mobz_1166 mobz_no
theorem mocodez_1806 (b s : Nat) : xall (fun _ a => xBm a) 2 b s codez_1806 := And.intro (mocodez_1804 b (2 * s)) (mocodez_1805 (b + s) (2 * s))
theorem mocodez_1807 (b s : Nat) : xall (fun _ a => xBm a) 1 b s codez_1807 := And.intro mobz_654 mobz_no
theorem mocodez_1808 (b s : Nat) : xall (fun _ a => xBm a) 1 b s codez_1808 := And.intro mobz_1678 mobz_no
theorem mocodez_1809 (b s : Nat) : xall (fun _ a => xBm a) 2 b s codez_1809 := And.intro (mocodez_1807 b (2 * s)) (mocodez_1808 (b + s) (2 * s))
theorem mocodez_1810 (b s : Nat) : xall (fun _ a => xBm a) 3 b s codez_1810 := And.intro (mocodez_1806 b (2 * s)) (mocodez_1809 (b + s) (2 * s))
theorem mocodez_1811 (b s : Nat) : xall (fun _ a => xBm a) 1 b s codez_1811 := And.intro mobz_398 mobz_2446
theorem mocodez_1812 (b s : Nat) : xall (fun _ a => xBm a) 1 b s codez_1812 := And.intro mobz_1422 mobz_no
theorem mocodez_1813 (b s : Nat) : xall (fun _ a => xBm a) 2 b s codez_1813 := And.intro (mocodez_1811 b (2 * s)) (mocodez_1812 (b + s) (2 * s))
theorem mocodez_1814 (b s : Nat) : xall (fun _ a => xBm a) 1 b s codez_1814 := And.intro mobz_910 mobz_no
theorem mocodez_1815 (b s : Nat) : xall (fun _ a => xBm a) 1 b s codez_1815 := And.intro mobz_1934 mobz_no
theorem mocodez_1816 (b s : Nat) : xall (fun _ a => xBm a) 2 b s codez_1816 := And.intro (mocodez_1814 b (2 * s)) (mocodez_1815 (b + s) (2 * s))
theorem mocodez_1817 (b s : Nat) : xall (fun _ a => xBm a) 3 b s codez_1817 := And.intro (mocodez_1813 b (2 * s)) (mocodez_1816 (b + s) (2 * s))
theorem mocodez_1818 (b s : Nat) : xall (fun _ a => xBm a) 4 b s codez_1818 := And.intro (mocodez_1810 b (2 * s)) (mocodez_1817 (b + s) (2 * s))
theorem mocodez_1819 (b s : Nat) : xall (fun _ a => xBm a) 5 b s codez_1819 := And.intro (mocodez_1803 b (2 * s)) (mocodez_1818 (b + s) (2 * s))
theorem mocodez_1820 (b s : Nat) : xall (fun _ a => xBm a) 1 b s codez_1820 := And.intro mobz_78 mobz_2126
theorem mocodez_1821 (b s : Nat) : xall (fun _ a => xBm a) 1 b s codez_1821 := And.intro mobz_1102 mobz_no
theorem mocodez_1822 (b s : Nat) : xall (fun _ a => xBm a) 2 b s codez_1822 := And.intro (mocodez_1820 b (2 * s)) (mocodez_1821 (b + s) (2 * s))
theorem mocodez_1823 (b s : Nat) : xall (fun _ a => xBm a) 1 b s codez_1823 := And.intro mobz_590 mobz_no
theorem mocodez_1824 (b s : Nat) : xall (fun _ a => xBm a) 1 b s codez_1824 := And.intro mobz_1614 mobz_no
theorem mocodez_1825 (b s : Nat) : xall (fun _ a => xBm a) 2 b s codez_1825 := And.intro (mocodez_1823 b (2 * s)) (mocodez_1824 (b + s) (2 * s))
theorem mocodez_1826 (b s : Nat) : xall (fun _ a => xBm a) 3 b s codez_1826 := And.intro (mocodez_1822 b (2 * s)) (mocodez_1825 (b + s) (2 * s))
theorem mocodez_1827 (b s : Nat) : xall (fun _ a => xBm a) 1 b s codez_1827 := And.intro mobz_334 mobz_2382
theorem mocodez_1828 (b s : Nat) : xall (fun _ a => xBm a) 1 b s codez_1828 := And.intro mobz_1358 mobz_no
theorem mocodez_1829 (b s : Nat) : xall (fun _ a => xBm a) 2 b s codez_1829 := And.intro (mocodez_1827 b (2 * s)) (mocodez_1828 (b + s) (2 * s))
theorem mocodez_1830 (b s : Nat) : xall (fun _ a => xBm a) 1 b s codez_1830 := And.intro mobz_846 mobz_no
theorem mocodez_1831 (b s : Nat) : xall (fun _ a => xBm a) 1 b s codez_1831 := And.intro mobz_1870 mobz_no
theorem mocodez_1832 (b s : Nat) : xall (fun _ a => xBm a) 2 b s codez_1832 := And.intro (mocodez_1830 b (2 * s)) (mocodez_1831 (b + s) (2 * s))
theorem mocodez_1833 (b s : Nat) : xall (fun _ a => xBm a) 3 b s codez_1833 := And.intro (mocodez_1829 b (2 * s)) (mocodez_1832 (b + s) (2 * s))
theorem mocodez_1834 (b s : Nat) : xall (fun _ a => xBm a) 4 b s codez_1834 := And.intro (mocodez_1826 b (2 * s)) (mocodez_1833 (b + s) (2 * s))
theorem mocodez_1835 (b s : Nat) : xall (fun _ a => xBm a) 1 b s codez_1835 := And.intro mobz_206 mobz_2254
theorem mocodez_1836 (b s : Nat) : xall (fun _ a => xBm a) 1 b s codez_1836 := And.intro mobz_1230 mobz_no
theorem mocodez_1837 (b s : Nat) : xall (fun _ a => xBm a) 2 b s codez_1837 := And.intro (mocodez_1835 b (2 * s)) (mocodez_1836 (b + s) (2 * s))
theorem mocodez_1838 (b s : Nat) : xall (fun _ a => xBm a) 1 b s codez_1838 := And.intro mobz_718 mobz_no
theorem mocodez_1839 (b s : Nat) : xall (fun _ a => xBm a) 1 b s codez_1839 := And.intro mobz_1742 mobz_no
theorem mocodez_1840 (b s : Nat) : xall (fun _ a => xBm a) 2 b s codez_1840 := And.intro (mocodez_1838 b (2 * s)) (mocodez_1839 (b + s) (2 * s))
theorem mocodez_1841 (b s : Nat) : xall (fun _ a => xBm a) 3 b s codez_1841 := And.intro (mocodez_1837 b (2 * s)) (mocodez_1840 (b + s) (2 * s))
theorem mocodez_1842 (b s : Nat) : xall (fun _ a => xBm a) 1 b s codez_1842 := And.intro mobz_462 mobz_2510
theorem mocodez_1843 (b s : Nat) : xall (fun _ a => xBm a) 1 b s codez_1843 := And.intro mobz_1486 mobz_no
theorem mocodez_1844 (b s : Nat) : xall (fun _ a => xBm a) 2 b s codez_1844 := And.intro (mocodez_1842 b (2 * s)) (mocodez_1843 (b + s) (2 * s))
theorem mocodez_1845 (b s : Nat) : xall (fun _ a => xBm a) 1 b s codez_1845 := And.intro mobz_974 mobz_no
theorem mocodez_1846 (b s : Nat) : xall (fun _ a => xBm a) 1 b s codez_1846 := And.intro mobz_1998 mobz_no
theorem mocodez_1847 (b s : Nat) : xall (fun _ a => xBm a) 2 b s codez_1847 := And.intro (mocodez_1845 b (2 * s)) (mocodez_1846 (b + s) (2 * s))
theorem mocodez_1848 (b s : Nat) : xall (fun _ a => xBm a) 3 b s codez_1848 := And.intro (mocodez_1844 b (2 * s)) (mocodez_1847 (b + s) (2 * s))
theorem mocodez_1849 (b s : Nat) : xall (fun _ a => xBm a) 4 b s codez_1849 := And.intro (mocodez_1841 b (2 * s)) (mocodez_1848 (b + s) (2 * s))
theorem mocodez_1850 (b s : Nat) : xall (fun _ a => xBm a) 5 b s codez_1850 := And.intro (mocodez_1834 b (2 * s)) (mocodez_1849 (b + s) (2 * s))
theorem mocodez_1851 (b s : Nat) : xall (fun _ a => xBm a) 6 b s codez_1851 := And.intro (mocodez_1819 b (2 * s)) (mocodez_1850 (b + s) (2 * s))
theorem mocodez_1852 (b s : Nat) : xall (fun _ a => xBm a) 1 b s codez_1852 := And.intro mobz_46 mobz_2094
theorem mocodez_1853 (b s : Nat) : xall (fun _ a => xBm a) 1 b s codez_1853 := And.intro mobz_1070 mobz_no
theorem mocodez_1854 (b s : Nat) : xall (fun _ a => xBm a) 2 b s codez_1854 := And.intro (mocodez_1852 b (2 * s)) (mocodez_1853 (b + s) (2 * s))
theorem mocodez_1855 (b s : Nat) : xall (fun _ a => xBm a) 1 b s codez_1855 := And.intro mobz_558 mobz_no
theorem mocodez_1856 (b s : Nat) : xall (fun _ a => xBm a) 1 b s codez_1856 := And.intro mobz_1582 mobz_no
theorem mocodez_1857 (b s : Nat) : xall (fun _ a => xBm a) 2 b s codez_1857 := And.intro (mocodez_1855 b (2 * s)) (mocodez_1856 (b + s) (2 * s))
theorem mocodez_1858 (b s : Nat) : xall (fun _ a => xBm a) 3 b s codez_1858 := And.intro (mocodez_1854 b (2 * s)) (mocodez_1857 (b + s) (2 * s))
theorem mocodez_1859 (b s : Nat) : xall (fun _ a => xBm a) 1 b s codez_1859 := And.intro mobz_302 mobz_2350
theorem mocodez_1860 (b s : Nat) : xall (fun _ a => xBm a) 1 b s codez_1860 := And.intro mobz_1326 mobz_no
theorem mocodez_1861 (b s : Nat) : xall (fun _ a => xBm a) 2 b s codez_1861 := And.intro (mocodez_1859 b (2 * s)) (mocodez_1860 (b + s) (2 * s))
theorem mocodez_1862 (b s : Nat) : xall (fun _ a => xBm a) 1 b s codez_1862 := And.intro mobz_814 mobz_no
theorem mocodez_1863 (b s : Nat) : xall (fun _ a => xBm a) 1 b s codez_1863 := And.intro mobz_1838 mobz_no
theorem mocodez_1864 (b s : Nat) : xall (fun _ a => xBm a) 2 b s codez_1864 := And.intro (mocodez_1862 b (2 * s)) (mocodez_1863 (b + s) (2 * s))
theorem mocodez_1865 (b s : Nat) : xall (fun _ a => xBm a) 3 b s codez_1865 := And.intro (mocodez_1861 b (2 * s)) (mocodez_1864 (b + s) (2 * s))
theorem mocodez_1866 (b s : Nat) : xall (fun _ a => xBm a) 4 b s codez_1866 := And.intro (mocodez_1858 b (2 * s)) (mocodez_1865 (b + s) (2 * s))
theorem mocodez_1867 (b s : Nat) : xall (fun _ a => xBm a) 1 b s codez_1867 := And.intro mobz_174 mobz_2222
theorem mocodez_1868 (b s : Nat) : xall (fun _ a => xBm a) 1 b s codez_1868 := And.intro mobz_1198 mobz_no
theorem mocodez_1869 (b s : Nat) : xall (fun _ a => xBm a) 2 b s codez_1869 := And.intro (mocodez_1867 b (2 * s)) (mocodez_1868 (b + s) (2 * s))
theorem mocodez_1870 (b s : Nat) : xall (fun _ a => xBm a) 1 b s codez_1870 := And.intro mobz_686 mobz_no
theorem mocodez_1871 (b s : Nat) : xall (fun _ a => xBm a) 1 b s codez_1871 := And.intro mobz_1710 mobz_no
theorem mocodez_1872 (b s : Nat) : xall (fun _ a => xBm a) 2 b s codez_1872 := And.intro (mocodez_1870 b (2 * s)) (mocodez_1871 (b + s) (2 * s))
theorem mocodez_1873 (b s : Nat) : xall (fun _ a => xBm a) 3 b s codez_1873 := And.intro (mocodez_1869 b (2 * s)) (mocodez_1872 (b + s) (2 * s))
theorem mocodez_1874 (b s : Nat) : xall (fun _ a => xBm a) 1 b s codez_1874 := And.intro mobz_430 mobz_2478
theorem mocodez_1875 (b s : Nat) : xall (fun _ a => xBm a) 1 b s codez_1875 := And.intro mobz_1454 mobz_no
theorem mocodez_1876 (b s : Nat) : xall (fun _ a => xBm a) 2 b s codez_1876 := And.intro (mocodez_1874 b (2 * s)) (mocodez_1875 (b + s) (2 * s))
theorem mocodez_1877 (b s : Nat) : xall (fun _ a => xBm a) 1 b s codez_1877 := And.intro mobz_942 mobz_no
theorem mocodez_1878 (b s : Nat) : xall (fun _ a => xBm a) 1 b s codez_1878 := And.intro mobz_1966 mobz_no
theorem mocodez_1879 (b s : Nat) : xall (fun _ a => xBm a) 2 b s codez_1879 := And.intro (mocodez_1877 b (2 * s)) (mocodez_1878 (b + s) (2 * s))
theorem mocodez_1880 (b s : Nat) : xall (fun _ a => xBm a) 3 b s codez_1880 := And.intro (mocodez_1876 b (2 * s)) (mocodez_1879 (b + s) (2 * s))
theorem mocodez_1881 (b s : Nat) : xall (fun _ a => xBm a) 4 b s codez_1881 := And.intro (mocodez_1873 b (2 * s)) (mocodez_1880 (b + s) (2 * s))
theorem mocodez_1882 (b s : Nat) : xall (fun _ a => xBm a) 5 b s codez_1882 := And.intro (mocodez_1866 b (2 * s)) (mocodez_1881 (b + s) (2 * s))
theorem mocodez_1883 (b s : Nat) : xall (fun _ a => xBm a) 1 b s codez_1883 := And.intro mobz_110 mobz_2158
theorem mocodez_1884 (b s : Nat) : xall (fun _ a => xBm a) 1 b s codez_1884 := And.intro mobz_1134 mobz_no
theorem mocodez_1885 (b s : Nat) : xall (fun _ a => xBm a) 2 b s codez_1885 := And.intro (mocodez_1883 b (2 * s)) (mocodez_1884 (b + s) (2 * s))
theorem mocodez_1886 (b s : Nat) : xall (fun _ a => xBm a) 1 b s codez_1886 := And.intro mobz_622 mobz_no
theorem mocodez_1887 (b s : Nat) : xall (fun _ a => xBm a) 1 b s codez_1887 := And.intro mobz_1646 mobz_no
theorem mocodez_1888 (b s : Nat) : xall (fun _ a => xBm a) 2 b s codez_1888 := And.intro (mocodez_1886 b (2 * s)) (mocodez_1887 (b + s) (2 * s))
theorem mocodez_1889 (b s : Nat) : xall (fun _ a => xBm a) 3 b s codez_1889 := And.intro (mocodez_1885 b (2 * s)) (mocodez_1888 (b + s) (2 * s))
theorem mocodez_1890 (b s : Nat) : xall (fun _ a => xBm a) 1 b s codez_1890 := And.intro mobz_366 mobz_2414
theorem mocodez_1891 (b s : Nat) : xall (fun _ a => xBm a) 1 b s codez_1891 := And.intro mobz_1390 mobz_no
theorem mocodez_1892 (b s : Nat) : xall (fun _ a => xBm a) 2 b s codez_1892 := And.intro (mocodez_1890 b (2 * s)) (mocodez_1891 (b + s) (2 * s))
theorem mocodez_1893 (b s : Nat) : xall (fun _ a => xBm a) 1 b s codez_1893 := And.intro mobz_878 mobz_no
theorem mocodez_1894 (b s : Nat) : xall (fun _ a => xBm a) 1 b s codez_1894 := And.intro mobz_1902 mobz_no
theorem mocodez_1895 (b s : Nat) : xall (fun _ a => xBm a) 2 b s codez_1895 := And.intro (mocodez_1893 b (2 * s)) (mocodez_1894 (b + s) (2 * s))
theorem mocodez_1896 (b s : Nat) : xall (fun _ a => xBm a) 3 b s codez_1896 := And.intro (mocodez_1892 b (2 * s)) (mocodez_1895 (b + s) (2 * s))
theorem mocodez_1897 (b s : Nat) : xall (fun _ a => xBm a) 4 b s codez_1897 := And.intro (mocodez_1889 b (2 * s)) (mocodez_1896 (b + s) (2 * s))
theorem mocodez_1898 (b s : Nat) : xall (fun _ a => xBm a) 1 b s codez_1898 := And.intro mobz_238 mobz_2286
theorem mocodez_1899 (b s : Nat) : xall (fun _ a => xBm a) 1 b s codez_1899 := And.intro mobz_1262 mobz_no
theorem mocodez_1900 (b s : Nat) : xall (fun _ a => xBm a) 2 b s codez_1900 := And.intro (mocodez_1898 b (2 * s)) (mocodez_1899 (b + s) (2 * s))
theorem mocodez_1901 (b s : Nat) : xall (fun _ a => xBm a) 1 b s codez_1901 := And.intro mobz_750 mobz_no
theorem mocodez_1902 (b s : Nat) : xall (fun _ a => xBm a) 1 b s codez_1902 := And.intro mobz_1774 mobz_no
theorem mocodez_1903 (b s : Nat) : xall (fun _ a => xBm a) 2 b s codez_1903 := And.intro (mocodez_1901 b (2 * s)) (mocodez_1902 (b + s) (2 * s))
theorem mocodez_1904 (b s : Nat) : xall (fun _ a => xBm a) 3 b s codez_1904 := And.intro (mocodez_1900 b (2 * s)) (mocodez_1903 (b + s) (2 * s))
theorem mocodez_1905 (b s : Nat) : xall (fun _ a => xBm a) 1 b s codez_1905 := And.intro mobz_494 mobz_no
theorem mocodez_1906 (b s : Nat) : xall (fun _ a => xBm a) 1 b s codez_1906 := And.intro mobz_1518 mobz_no
theorem mocodez_1907 (b s : Nat) : xall (fun _ a => xBm a) 2 b s codez_1907 := And.intro (mocodez_1905 b (2 * s)) (mocodez_1906 (b + s) (2 * s))
theorem mocodez_1908 (b s : Nat) : xall (fun _ a => xBm a) 1 b s codez_1908 := And.intro mobz_1006 mobz_no
theorem mocodez_1909 (b s : Nat) : xall (fun _ a => xBm a) 1 b s codez_1909 := And.intro mobz_2030 mobz_no
theorem mocodez_1910 (b s : Nat) : xall (fun _ a => xBm a) 2 b s codez_1910 := And.intro (mocodez_1908 b (2 * s)) (mocodez_1909 (b + s) (2 * s))
theorem mocodez_1911 (b s : Nat) : xall (fun _ a => xBm a) 3 b s codez_1911 := And.intro (mocodez_1907 b (2 * s)) (mocodez_1910 (b + s) (2 * s))
theorem mocodez_1912 (b s : Nat) : xall (fun _ a => xBm a) 4 b s codez_1912 := And.intro (mocodez_1904 b (2 * s)) (mocodez_1911 (b + s) (2 * s))
theorem mocodez_1913 (b s : Nat) : xall (fun _ a => xBm a) 5 b s codez_1913 := And.intro (mocodez_1897 b (2 * s)) (mocodez_1912 (b + s) (2 * s))
theorem mocodez_1914 (b s : Nat) : xall (fun _ a => xBm a) 6 b s codez_1914 := And.intro (mocodez_1882 b (2 * s)) (mocodez_1913 (b + s) (2 * s))
theorem mocodez_1915 (b s : Nat) : xall (fun _ a => xBm a) 7 b s codez_1915 := And.intro (mocodez_1851 b (2 * s)) (mocodez_1914 (b + s) (2 * s))
theorem mocodez_1916 (b s : Nat) : xall (fun _ a => xBm a) 1 b s codez_1916 := And.intro mobz_30 mobz_2078
theorem mocodez_1917 (b s : Nat) : xall (fun _ a => xBm a) 1 b s codez_1917 := And.intro mobz_1054 mobz_no
theorem mocodez_1918 (b s : Nat) : xall (fun _ a => xBm a) 2 b s codez_1918 := And.intro (mocodez_1916 b (2 * s)) (mocodez_1917 (b + s) (2 * s))
theorem mocodez_1919 (b s : Nat) : xall (fun _ a => xBm a) 1 b s codez_1919 := And.intro mobz_542 mobz_no
theorem mocodez_1920 (b s : Nat) : xall (fun _ a => xBm a) 1 b s codez_1920 := And.intro mobz_1566 mobz_no
theorem mocodez_1921 (b s : Nat) : xall (fun _ a => xBm a) 2 b s codez_1921 := And.intro (mocodez_1919 b (2 * s)) (mocodez_1920 (b + s) (2 * s))
theorem mocodez_1922 (b s : Nat) : xall (fun _ a => xBm a) 3 b s codez_1922 := And.intro (mocodez_1918 b (2 * s)) (mocodez_1921 (b + s) (2 * s))
theorem mocodez_1923 (b s : Nat) : xall (fun _ a => xBm a) 1 b s codez_1923 := And.intro mobz_286 mobz_2334
theorem mocodez_1924 (b s : Nat) : xall (fun _ a => xBm a) 1 b s codez_1924 := And.intro mobz_1310 mobz_no
theorem mocodez_1925 (b s : Nat) : xall (fun _ a => xBm a) 2 b s codez_1925 := And.intro (mocodez_1923 b (2 * s)) (mocodez_1924 (b + s) (2 * s))
theorem mocodez_1926 (b s : Nat) : xall (fun _ a => xBm a) 1 b s codez_1926 := And.intro mobz_798 mobz_no
theorem mocodez_1927 (b s : Nat) : xall (fun _ a => xBm a) 1 b s codez_1927 := And.intro mobz_1822 mobz_no
theorem mocodez_1928 (b s : Nat) : xall (fun _ a => xBm a) 2 b s codez_1928 := And.intro (mocodez_1926 b (2 * s)) (mocodez_1927 (b + s) (2 * s))
theorem mocodez_1929 (b s : Nat) : xall (fun _ a => xBm a) 3 b s codez_1929 := And.intro (mocodez_1925 b (2 * s)) (mocodez_1928 (b + s) (2 * s))
theorem mocodez_1930 (b s : Nat) : xall (fun _ a => xBm a) 4 b s codez_1930 := And.intro (mocodez_1922 b (2 * s)) (mocodez_1929 (b + s) (2 * s))
theorem mocodez_1931 (b s : Nat) : xall (fun _ a => xBm a) 1 b s codez_1931 := And.intro mobz_158 mobz_2206
theorem mocodez_1932 (b s : Nat) : xall (fun _ a => xBm a) 1 b s codez_1932 := And.intro mobz_1182 mobz_no
theorem mocodez_1933 (b s : Nat) : xall (fun _ a => xBm a) 2 b s codez_1933 := And.intro (mocodez_1931 b (2 * s)) (mocodez_1932 (b + s) (2 * s))
theorem mocodez_1934 (b s : Nat) : xall (fun _ a => xBm a) 1 b s codez_1934 := And.intro mobz_670 mobz_no
theorem mocodez_1935 (b s : Nat) : xall (fun _ a => xBm a) 1 b s codez_1935 := And.intro mobz_1694 mobz_no
theorem mocodez_1936 (b s : Nat) : xall (fun _ a => xBm a) 2 b s codez_1936 := And.intro (mocodez_1934 b (2 * s)) (mocodez_1935 (b + s) (2 * s))
theorem mocodez_1937 (b s : Nat) : xall (fun _ a => xBm a) 3 b s codez_1937 := And.intro (mocodez_1933 b (2 * s)) (mocodez_1936 (b + s) (2 * s))
theorem mocodez_1938 (b s : Nat) : xall (fun _ a => xBm a) 1 b s codez_1938 := And.intro mobz_414 mobz_2462
theorem mocodez_1939 (b s : Nat) : xall (fun _ a => xBm a) 1 b s codez_1939 := And.intro mobz_1438 mobz_no
theorem mocodez_1940 (b s : Nat) : xall (fun _ a => xBm a) 2 b s codez_1940 := And.intro (mocodez_1938 b (2 * s)) (mocodez_1939 (b + s) (2 * s))
theorem mocodez_1941 (b s : Nat) : xall (fun _ a => xBm a) 1 b s codez_1941 := And.intro mobz_926 mobz_no
theorem mocodez_1942 (b s : Nat) : xall (fun _ a => xBm a) 1 b s codez_1942 := And.intro mobz_1950 mobz_no
theorem mocodez_1943 (b s : Nat) : xall (fun _ a => xBm a) 2 b s codez_1943 := And.intro (mocodez_1941 b (2 * s)) (mocodez_1942 (b + s) (2 * s))
theorem mocodez_1944 (b s : Nat) : xall (fun _ a => xBm a) 3 b s codez_1944 := And.intro (mocodez_1940 b (2 * s)) (mocodez_1943 (b + s) (2 * s))
theorem mocodez_1945 (b s : Nat) : xall (fun _ a => xBm a) 4 b s codez_1945 := And.intro (mocodez_1937 b (2 * s)) (mocodez_1944 (b + s) (2 * s))
theorem mocodez_1946 (b s : Nat) : xall (fun _ a => xBm a) 5 b s codez_1946 := And.intro (mocodez_1930 b (2 * s)) (mocodez_1945 (b + s) (2 * s))
theorem mocodez_1947 (b s : Nat) : xall (fun _ a => xBm a) 1 b s codez_1947 := And.intro mobz_94 mobz_2142
theorem mocodez_1948 (b s : Nat) : xall (fun _ a => xBm a) 1 b s codez_1948 := And.intro mobz_1118 mobz_no
theorem mocodez_1949 (b s : Nat) : xall (fun _ a => xBm a) 2 b s codez_1949 := And.intro (mocodez_1947 b (2 * s)) (mocodez_1948 (b + s) (2 * s))
theorem mocodez_1950 (b s : Nat) : xall (fun _ a => xBm a) 1 b s codez_1950 := And.intro mobz_606 mobz_no
theorem mocodez_1951 (b s : Nat) : xall (fun _ a => xBm a) 1 b s codez_1951 := And.intro mobz_1630 mobz_no
theorem mocodez_1952 (b s : Nat) : xall (fun _ a => xBm a) 2 b s codez_1952 := And.intro (mocodez_1950 b (2 * s)) (mocodez_1951 (b + s) (2 * s))
theorem mocodez_1953 (b s : Nat) : xall (fun _ a => xBm a) 3 b s codez_1953 := And.intro (mocodez_1949 b (2 * s)) (mocodez_1952 (b + s) (2 * s))
theorem mocodez_1954 (b s : Nat) : xall (fun _ a => xBm a) 1 b s codez_1954 := And.intro mobz_350 mobz_2398
theorem mocodez_1955 (b s : Nat) : xall (fun _ a => xBm a) 1 b s codez_1955 := And.intro mobz_1374 mobz_no
theorem mocodez_1956 (b s : Nat) : xall (fun _ a => xBm a) 2 b s codez_1956 := And.intro (mocodez_1954 b (2 * s)) (mocodez_1955 (b + s) (2 * s))
theorem mocodez_1957 (b s : Nat) : xall (fun _ a => xBm a) 1 b s codez_1957 := And.intro mobz_862 mobz_no
theorem mocodez_1958 (b s : Nat) : xall (fun _ a => xBm a) 1 b s codez_1958 := And.intro mobz_1886 mobz_no
theorem mocodez_1959 (b s : Nat) : xall (fun _ a => xBm a) 2 b s codez_1959 := And.intro (mocodez_1957 b (2 * s)) (mocodez_1958 (b + s) (2 * s))
theorem mocodez_1960 (b s : Nat) : xall (fun _ a => xBm a) 3 b s codez_1960 := And.intro (mocodez_1956 b (2 * s)) (mocodez_1959 (b + s) (2 * s))
theorem mocodez_1961 (b s : Nat) : xall (fun _ a => xBm a) 4 b s codez_1961 := And.intro (mocodez_1953 b (2 * s)) (mocodez_1960 (b + s) (2 * s))
theorem mocodez_1962 (b s : Nat) : xall (fun _ a => xBm a) 1 b s codez_1962 := And.intro mobz_222 mobz_2270
theorem mocodez_1963 (b s : Nat) : xall (fun _ a => xBm a) 1 b s codez_1963 := And.intro mobz_1246 mobz_no
theorem mocodez_1964 (b s : Nat) : xall (fun _ a => xBm a) 2 b s codez_1964 := And.intro (mocodez_1962 b (2 * s)) (mocodez_1963 (b + s) (2 * s))
theorem mocodez_1965 (b s : Nat) : xall (fun _ a => xBm a) 1 b s codez_1965 := And.intro mobz_734 mobz_no
theorem mocodez_1966 (b s : Nat) : xall (fun _ a => xBm a) 1 b s codez_1966 := And.intro mobz_1758 mobz_no
theorem mocodez_1967 (b s : Nat) : xall (fun _ a => xBm a) 2 b s codez_1967 := And.intro (mocodez_1965 b (2 * s)) (mocodez_1966 (b + s) (2 * s))
theorem mocodez_1968 (b s : Nat) : xall (fun _ a => xBm a) 3 b s codez_1968 := And.intro (mocodez_1964 b (2 * s)) (mocodez_1967 (b + s) (2 * s))
theorem mocodez_1969 (b s : Nat) : xall (fun _ a => xBm a) 1 b s codez_1969 := And.intro mobz_478 mobz_2526
theorem mocodez_1970 (b s : Nat) : xall (fun _ a => xBm a) 1 b s codez_1970 := And.intro mobz_1502 mobz_no
theorem mocodez_1971 (b s : Nat) : xall (fun _ a => xBm a) 2 b s codez_1971 := And.intro (mocodez_1969 b (2 * s)) (mocodez_1970 (b + s) (2 * s))
theorem mocodez_1972 (b s : Nat) : xall (fun _ a => xBm a) 1 b s codez_1972 := And.intro mobz_990 mobz_no
theorem mocodez_1973 (b s : Nat) : xall (fun _ a => xBm a) 1 b s codez_1973 := And.intro mobz_2014 mobz_no
theorem mocodez_1974 (b s : Nat) : xall (fun _ a => xBm a) 2 b s codez_1974 := And.intro (mocodez_1972 b (2 * s)) (mocodez_1973 (b + s) (2 * s))
theorem mocodez_1975 (b s : Nat) : xall (fun _ a => xBm a) 3 b s codez_1975 := And.intro (mocodez_1971 b (2 * s)) (mocodez_1974 (b + s) (2 * s))
theorem mocodez_1976 (b s : Nat) : xall (fun _ a => xBm a) 4 b s codez_1976 := And.intro (mocodez_1968 b (2 * s)) (mocodez_1975 (b + s) (2 * s))
theorem mocodez_1977 (b s : Nat) : xall (fun _ a => xBm a) 5 b s codez_1977 := And.intro (mocodez_1961 b (2 * s)) (mocodez_1976 (b + s) (2 * s))
theorem mocodez_1978 (b s : Nat) : xall (fun _ a => xBm a) 6 b s codez_1978 := And.intro (mocodez_1946 b (2 * s)) (mocodez_1977 (b + s) (2 * s))
theorem mocodez_1979 (b s : Nat) : xall (fun _ a => xBm a) 1 b s codez_1979 := And.intro mobz_62 mobz_2110
theorem mocodez_1980 (b s : Nat) : xall (fun _ a => xBm a) 1 b s codez_1980 := And.intro mobz_1086 mobz_no
theorem mocodez_1981 (b s : Nat) : xall (fun _ a => xBm a) 2 b s codez_1981 := And.intro (mocodez_1979 b (2 * s)) (mocodez_1980 (b + s) (2 * s))
theorem mocodez_1982 (b s : Nat) : xall (fun _ a => xBm a) 1 b s codez_1982 := And.intro mobz_574 mobz_no
theorem mocodez_1983 (b s : Nat) : xall (fun _ a => xBm a) 1 b s codez_1983 := And.intro mobz_1598 mobz_no
theorem mocodez_1984 (b s : Nat) : xall (fun _ a => xBm a) 2 b s codez_1984 := And.intro (mocodez_1982 b (2 * s)) (mocodez_1983 (b + s) (2 * s))
theorem mocodez_1985 (b s : Nat) : xall (fun _ a => xBm a) 3 b s codez_1985 := And.intro (mocodez_1981 b (2 * s)) (mocodez_1984 (b + s) (2 * s))
theorem mocodez_1986 (b s : Nat) : xall (fun _ a => xBm a) 1 b s codez_1986 := And.intro mobz_318 mobz_2366
theorem mocodez_1987 (b s : Nat) : xall (fun _ a => xBm a) 1 b s codez_1987 := And.intro mobz_1342 mobz_no
theorem mocodez_1988 (b s : Nat) : xall (fun _ a => xBm a) 2 b s codez_1988 := And.intro (mocodez_1986 b (2 * s)) (mocodez_1987 (b + s) (2 * s))
theorem mocodez_1989 (b s : Nat) : xall (fun _ a => xBm a) 1 b s codez_1989 := And.intro mobz_830 mobz_no
theorem mocodez_1990 (b s : Nat) : xall (fun _ a => xBm a) 1 b s codez_1990 := And.intro mobz_1854 mobz_no
theorem mocodez_1991 (b s : Nat) : xall (fun _ a => xBm a) 2 b s codez_1991 := And.intro (mocodez_1989 b (2 * s)) (mocodez_1990 (b + s) (2 * s))
theorem mocodez_1992 (b s : Nat) : xall (fun _ a => xBm a) 3 b s codez_1992 := And.intro (mocodez_1988 b (2 * s)) (mocodez_1991 (b + s) (2 * s))
theorem mocodez_1993 (b s : Nat) : xall (fun _ a => xBm a) 4 b s codez_1993 := And.intro (mocodez_1985 b (2 * s)) (mocodez_1992 (b + s) (2 * s))
theorem mocodez_1994 (b s : Nat) : xall (fun _ a => xBm a) 1 b s codez_1994 := And.intro mobz_190 mobz_2238
theorem mocodez_1995 (b s : Nat) : xall (fun _ a => xBm a) 1 b s codez_1995 := And.intro mobz_1214 mobz_no
theorem mocodez_1996 (b s : Nat) : xall (fun _ a => xBm a) 2 b s codez_1996 := And.intro (mocodez_1994 b (2 * s)) (mocodez_1995 (b + s) (2 * s))
theorem mocodez_1997 (b s : Nat) : xall (fun _ a => xBm a) 1 b s codez_1997 := And.intro mobz_702 mobz_no
theorem mocodez_1998 (b s : Nat) : xall (fun _ a => xBm a) 1 b s codez_1998 := And.intro mobz_1726 mobz_no
theorem mocodez_1999 (b s : Nat) : xall (fun _ a => xBm a) 2 b s codez_1999 := And.intro (mocodez_1997 b (2 * s)) (mocodez_1998 (b + s) (2 * s))
theorem mocodez_2000 (b s : Nat) : xall (fun _ a => xBm a) 3 b s codez_2000 := And.intro (mocodez_1996 b (2 * s)) (mocodez_1999 (b + s) (2 * s))
theorem mocodez_2001 (b s : Nat) : xall (fun _ a => xBm a) 1 b s codez_2001 := And.intro mobz_446 mobz_2494
theorem mocodez_2002 (b s : Nat) : xall (fun _ a => xBm a) 1 b s codez_2002 := And.intro mobz_1470 mobz_no
theorem mocodez_2003 (b s : Nat) : xall (fun _ a => xBm a) 2 b s codez_2003 := And.intro (mocodez_2001 b (2 * s)) (mocodez_2002 (b + s) (2 * s))
theorem mocodez_2004 (b s : Nat) : xall (fun _ a => xBm a) 1 b s codez_2004 := And.intro mobz_958 mobz_no
theorem mocodez_2005 (b s : Nat) : xall (fun _ a => xBm a) 1 b s codez_2005 := And.intro mobz_1982 mobz_no
theorem mocodez_2006 (b s : Nat) : xall (fun _ a => xBm a) 2 b s codez_2006 := And.intro (mocodez_2004 b (2 * s)) (mocodez_2005 (b + s) (2 * s))
theorem mocodez_2007 (b s : Nat) : xall (fun _ a => xBm a) 3 b s codez_2007 := And.intro (mocodez_2003 b (2 * s)) (mocodez_2006 (b + s) (2 * s))
theorem mocodez_2008 (b s : Nat) : xall (fun _ a => xBm a) 4 b s codez_2008 := And.intro (mocodez_2000 b (2 * s)) (mocodez_2007 (b + s) (2 * s))
theorem mocodez_2009 (b s : Nat) : xall (fun _ a => xBm a) 5 b s codez_2009 := And.intro (mocodez_1993 b (2 * s)) (mocodez_2008 (b + s) (2 * s))
theorem mocodez_2010 (b s : Nat) : xall (fun _ a => xBm a) 1 b s codez_2010 := And.intro mobz_126 mobz_2174
theorem mocodez_2011 (b s : Nat) : xall (fun _ a => xBm a) 1 b s codez_2011 := And.intro mobz_1150 mobz_no
theorem mocodez_2012 (b s : Nat) : xall (fun _ a => xBm a) 2 b s codez_2012 := And.intro (mocodez_2010 b (2 * s)) (mocodez_2011 (b + s) (2 * s))
theorem mocodez_2013 (b s : Nat) : xall (fun _ a => xBm a) 1 b s codez_2013 := And.intro mobz_638 mobz_no
theorem mocodez_2014 (b s : Nat) : xall (fun _ a => xBm a) 1 b s codez_2014 := And.intro mobz_1662 mobz_no
theorem mocodez_2015 (b s : Nat) : xall (fun _ a => xBm a) 2 b s codez_2015 := And.intro (mocodez_2013 b (2 * s)) (mocodez_2014 (b + s) (2 * s))
theorem mocodez_2016 (b s : Nat) : xall (fun _ a => xBm a) 3 b s codez_2016 := And.intro (mocodez_2012 b (2 * s)) (mocodez_2015 (b + s) (2 * s))
theorem mocodez_2017 (b s : Nat) : xall (fun _ a => xBm a) 1 b s codez_2017 := And.intro mobz_382 mobz_2430
theorem mocodez_2018 (b s : Nat) : xall (fun _ a => xBm a) 1 b s codez_2018 := And.intro mobz_1406 mobz_no
theorem mocodez_2019 (b s : Nat) : xall (fun _ a => xBm a) 2 b s codez_2019 := And.intro (mocodez_2017 b (2 * s)) (mocodez_2018 (b + s) (2 * s))
theorem mocodez_2020 (b s : Nat) : xall (fun _ a => xBm a) 1 b s codez_2020 := And.intro mobz_894 mobz_no
theorem mocodez_2021 (b s : Nat) : xall (fun _ a => xBm a) 1 b s codez_2021 := And.intro mobz_1918 mobz_no
theorem mocodez_2022 (b s : Nat) : xall (fun _ a => xBm a) 2 b s codez_2022 := And.intro (mocodez_2020 b (2 * s)) (mocodez_2021 (b + s) (2 * s))
theorem mocodez_2023 (b s : Nat) : xall (fun _ a => xBm a) 3 b s codez_2023 := And.intro (mocodez_2019 b (2 * s)) (mocodez_2022 (b + s) (2 * s))
theorem mocodez_2024 (b s : Nat) : xall (fun _ a => xBm a) 4 b s codez_2024 := And.intro (mocodez_2016 b (2 * s)) (mocodez_2023 (b + s) (2 * s))
theorem mocodez_2025 (b s : Nat) : xall (fun _ a => xBm a) 1 b s codez_2025 := And.intro mobz_254 mobz_2302
theorem mocodez_2026 (b s : Nat) : xall (fun _ a => xBm a) 1 b s codez_2026 := And.intro mobz_1278 mobz_no
theorem mocodez_2027 (b s : Nat) : xall (fun _ a => xBm a) 2 b s codez_2027 := And.intro (mocodez_2025 b (2 * s)) (mocodez_2026 (b + s) (2 * s))
theorem mocodez_2028 (b s : Nat) : xall (fun _ a => xBm a) 1 b s codez_2028 := And.intro mobz_766 mobz_no
theorem mocodez_2029 (b s : Nat) : xall (fun _ a => xBm a) 1 b s codez_2029 := And.intro mobz_1790 mobz_no
theorem mocodez_2030 (b s : Nat) : xall (fun _ a => xBm a) 2 b s codez_2030 := And.intro (mocodez_2028 b (2 * s)) (mocodez_2029 (b + s) (2 * s))
theorem mocodez_2031 (b s : Nat) : xall (fun _ a => xBm a) 3 b s codez_2031 := And.intro (mocodez_2027 b (2 * s)) (mocodez_2030 (b + s) (2 * s))
theorem mocodez_2032 (b s : Nat) : xall (fun _ a => xBm a) 1 b s codez_2032 := And.intro mobz_510 mobz_no
theorem mocodez_2033 (b s : Nat) : xall (fun _ a => xBm a) 1 b s codez_2033 := And.intro mobz_1534 mobz_no
theorem mocodez_2034 (b s : Nat) : xall (fun _ a => xBm a) 2 b s codez_2034 := And.intro (mocodez_2032 b (2 * s)) (mocodez_2033 (b + s) (2 * s))
theorem mocodez_2035 (b s : Nat) : xall (fun _ a => xBm a) 1 b s codez_2035 := And.intro mobz_1022 mobz_no
theorem mocodez_2036 (b s : Nat) : xall (fun _ a => xBm a) 1 b s codez_2036 := And.intro mobz_2046 mobz_no
theorem mocodez_2037 (b s : Nat) : xall (fun _ a => xBm a) 2 b s codez_2037 := And.intro (mocodez_2035 b (2 * s)) (mocodez_2036 (b + s) (2 * s))
theorem mocodez_2038 (b s : Nat) : xall (fun _ a => xBm a) 3 b s codez_2038 := And.intro (mocodez_2034 b (2 * s)) (mocodez_2037 (b + s) (2 * s))
theorem mocodez_2039 (b s : Nat) : xall (fun _ a => xBm a) 4 b s codez_2039 := And.intro (mocodez_2031 b (2 * s)) (mocodez_2038 (b + s) (2 * s))
theorem mocodez_2040 (b s : Nat) : xall (fun _ a => xBm a) 5 b s codez_2040 := And.intro (mocodez_2024 b (2 * s)) (mocodez_2039 (b + s) (2 * s))
theorem mocodez_2041 (b s : Nat) : xall (fun _ a => xBm a) 6 b s codez_2041 := And.intro (mocodez_2009 b (2 * s)) (mocodez_2040 (b + s) (2 * s))
theorem mocodez_2042 (b s : Nat) : xall (fun _ a => xBm a) 7 b s codez_2042 := And.intro (mocodez_1978 b (2 * s)) (mocodez_2041 (b + s) (2 * s))
theorem mocodez_2043 (b s : Nat) : xall (fun _ a => xBm a) 8 b s codez_2043 := And.intro (mocodez_1915 b (2 * s)) (mocodez_2042 (b + s) (2 * s))
theorem mocodez_2044 (b s : Nat) : xall (fun _ a => xBm a) 9 b s codez_2044 := And.intro (mocodez_1788 b (2 * s)) (mocodez_2043 (b + s) (2 * s))
theorem mocodez_2045 (b s : Nat) : xall (fun _ a => xBm a) 10 b s codez_2045 := And.intro (mocodez_1533 b (2 * s)) (mocodez_2044 (b + s) (2 * s))
theorem mocodez_2046 (b s : Nat) : xall (fun _ a => xBm a) 11 b s codez_2046 := And.intro (mocodez_1022 b (2 * s)) (mocodez_2045 (b + s) (2 * s))
theorem mocodez_2047 (b s : Nat) : xall (fun _ a => xBm a) 1 b s codez_2047 := And.intro mobz_1 mobz_2049
theorem mocodez_2048 (b s : Nat) : xall (fun _ a => xBm a) 1 b s codez_2048 := And.intro mobz_1025 mobz_no
theorem mocodez_2049 (b s : Nat) : xall (fun _ a => xBm a) 2 b s codez_2049 := And.intro (mocodez_2047 b (2 * s)) (mocodez_2048 (b + s) (2 * s))
theorem mocodez_2050 (b s : Nat) : xall (fun _ a => xBm a) 1 b s codez_2050 := And.intro mobz_513 mobz_no
theorem mocodez_2051 (b s : Nat) : xall (fun _ a => xBm a) 1 b s codez_2051 := And.intro mobz_1537 mobz_no
theorem mocodez_2052 (b s : Nat) : xall (fun _ a => xBm a) 2 b s codez_2052 := And.intro (mocodez_2050 b (2 * s)) (mocodez_2051 (b + s) (2 * s))
theorem mocodez_2053 (b s : Nat) : xall (fun _ a => xBm a) 3 b s codez_2053 := And.intro (mocodez_2049 b (2 * s)) (mocodez_2052 (b + s) (2 * s))
theorem mocodez_2054 (b s : Nat) : xall (fun _ a => xBm a) 1 b s codez_2054 := And.intro mobz_257 mobz_2305
theorem mocodez_2055 (b s : Nat) : xall (fun _ a => xBm a) 1 b s codez_2055 := And.intro mobz_1281 mobz_no
theorem mocodez_2056 (b s : Nat) : xall (fun _ a => xBm a) 2 b s codez_2056 := And.intro (mocodez_2054 b (2 * s)) (mocodez_2055 (b + s) (2 * s))
theorem mocodez_2057 (b s : Nat) : xall (fun _ a => xBm a) 1 b s codez_2057 := And.intro mobz_769 mobz_no
theorem mocodez_2058 (b s : Nat) : xall (fun _ a => xBm a) 1 b s codez_2058 := And.intro mobz_1793 mobz_no
theorem mocodez_2059 (b s : Nat) : xall (fun _ a => xBm a) 2 b s codez_2059 := And.intro (mocodez_2057 b (2 * s)) (mocodez_2058 (b + s) (2 * s))
theorem mocodez_2060 (b s : Nat) : xall (fun _ a => xBm a) 3 b s codez_2060 := And.intro (mocodez_2056 b (2 * s)) (mocodez_2059 (b + s) (2 * s))
theorem mocodez_2061 (b s : Nat) : xall (fun _ a => xBm a) 4 b s codez_2061 := And.intro (mocodez_2053 b (2 * s)) (mocodez_2060 (b + s) (2 * s))
theorem mocodez_2062 (b s : Nat) : xall (fun _ a => xBm a) 1 b s codez_2062 := And.intro mobz_129 mobz_2177
theorem mocodez_2063 (b s : Nat) : xall (fun _ a => xBm a) 1 b s codez_2063 := And.intro mobz_1153 mobz_no
theorem mocodez_2064 (b s : Nat) : xall (fun _ a => xBm a) 2 b s codez_2064 := And.intro (mocodez_2062 b (2 * s)) (mocodez_2063 (b + s) (2 * s))
theorem mocodez_2065 (b s : Nat) : xall (fun _ a => xBm a) 1 b s codez_2065 := And.intro mobz_641 mobz_no
theorem mocodez_2066 (b s : Nat) : xall (fun _ a => xBm a) 1 b s codez_2066 := And.intro mobz_1665 mobz_no
theorem mocodez_2067 (b s : Nat) : xall (fun _ a => xBm a) 2 b s codez_2067 := And.intro (mocodez_2065 b (2 * s)) (mocodez_2066 (b + s) (2 * s))
theorem mocodez_2068 (b s : Nat) : xall (fun _ a => xBm a) 3 b s codez_2068 := And.intro (mocodez_2064 b (2 * s)) (mocodez_2067 (b + s) (2 * s))
theorem mocodez_2069 (b s : Nat) : xall (fun _ a => xBm a) 1 b s codez_2069 := And.intro mobz_385 mobz_2433
theorem mocodez_2070 (b s : Nat) : xall (fun _ a => xBm a) 1 b s codez_2070 := And.intro mobz_1409 mobz_no
theorem mocodez_2071 (b s : Nat) : xall (fun _ a => xBm a) 2 b s codez_2071 := And.intro (mocodez_2069 b (2 * s)) (mocodez_2070 (b + s) (2 * s))
theorem mocodez_2072 (b s : Nat) : xall (fun _ a => xBm a) 1 b s codez_2072 := And.intro mobz_897 mobz_no
theorem mocodez_2073 (b s : Nat) : xall (fun _ a => xBm a) 1 b s codez_2073 := And.intro mobz_1921 mobz_no
theorem mocodez_2074 (b s : Nat) : xall (fun _ a => xBm a) 2 b s codez_2074 := And.intro (mocodez_2072 b (2 * s)) (mocodez_2073 (b + s) (2 * s))
theorem mocodez_2075 (b s : Nat) : xall (fun _ a => xBm a) 3 b s codez_2075 := And.intro (mocodez_2071 b (2 * s)) (mocodez_2074 (b + s) (2 * s))
theorem mocodez_2076 (b s : Nat) : xall (fun _ a => xBm a) 4 b s codez_2076 := And.intro (mocodez_2068 b (2 * s)) (mocodez_2075 (b + s) (2 * s))
theorem mocodez_2077 (b s : Nat) : xall (fun _ a => xBm a) 5 b s codez_2077 := And.intro (mocodez_2061 b (2 * s)) (mocodez_2076 (b + s) (2 * s))
theorem mocodez_2078 (b s : Nat) : xall (fun _ a => xBm a) 1 b s codez_2078 := And.intro mobz_65 mobz_2113
theorem mocodez_2079 (b s : Nat) : xall (fun _ a => xBm a) 1 b s codez_2079 := And.intro mobz_1089 mobz_no
theorem mocodez_2080 (b s : Nat) : xall (fun _ a => xBm a) 2 b s codez_2080 := And.intro (mocodez_2078 b (2 * s)) (mocodez_2079 (b + s) (2 * s))
theorem mocodez_2081 (b s : Nat) : xall (fun _ a => xBm a) 1 b s codez_2081 := And.intro mobz_577 mobz_no
theorem mocodez_2082 (b s : Nat) : xall (fun _ a => xBm a) 1 b s codez_2082 := And.intro mobz_1601 mobz_no
theorem mocodez_2083 (b s : Nat) : xall (fun _ a => xBm a) 2 b s codez_2083 := And.intro (mocodez_2081 b (2 * s)) (mocodez_2082 (b + s) (2 * s))
theorem mocodez_2084 (b s : Nat) : xall (fun _ a => xBm a) 3 b s codez_2084 := And.intro (mocodez_2080 b (2 * s)) (mocodez_2083 (b + s) (2 * s))
theorem mocodez_2085 (b s : Nat) : xall (fun _ a => xBm a) 1 b s codez_2085 := And.intro mobz_321 mobz_2369
theorem mocodez_2086 (b s : Nat) : xall (fun _ a => xBm a) 1 b s codez_2086 := And.intro mobz_1345 mobz_no
theorem mocodez_2087 (b s : Nat) : xall (fun _ a => xBm a) 2 b s codez_2087 := And.intro (mocodez_2085 b (2 * s)) (mocodez_2086 (b + s) (2 * s))
theorem mocodez_2088 (b s : Nat) : xall (fun _ a => xBm a) 1 b s codez_2088 := And.intro mobz_833 mobz_no
theorem mocodez_2089 (b s : Nat) : xall (fun _ a => xBm a) 1 b s codez_2089 := And.intro mobz_1857 mobz_no
theorem mocodez_2090 (b s : Nat) : xall (fun _ a => xBm a) 2 b s codez_2090 := And.intro (mocodez_2088 b (2 * s)) (mocodez_2089 (b + s) (2 * s))
theorem mocodez_2091 (b s : Nat) : xall (fun _ a => xBm a) 3 b s codez_2091 := And.intro (mocodez_2087 b (2 * s)) (mocodez_2090 (b + s) (2 * s))
theorem mocodez_2092 (b s : Nat) : xall (fun _ a => xBm a) 4 b s codez_2092 := And.intro (mocodez_2084 b (2 * s)) (mocodez_2091 (b + s) (2 * s))
theorem mocodez_2093 (b s : Nat) : xall (fun _ a => xBm a) 1 b s codez_2093 := And.intro mobz_193 mobz_2241
theorem mocodez_2094 (b s : Nat) : xall (fun _ a => xBm a) 1 b s codez_2094 := And.intro mobz_1217 mobz_no
theorem mocodez_2095 (b s : Nat) : xall (fun _ a => xBm a) 2 b s codez_2095 := And.intro (mocodez_2093 b (2 * s)) (mocodez_2094 (b + s) (2 * s))
theorem mocodez_2096 (b s : Nat) : xall (fun _ a => xBm a) 1 b s codez_2096 := And.intro mobz_705 mobz_no
theorem mocodez_2097 (b s : Nat) : xall (fun _ a => xBm a) 1 b s codez_2097 := And.intro mobz_1729 mobz_no
theorem mocodez_2098 (b s : Nat) : xall (fun _ a => xBm a) 2 b s codez_2098 := And.intro (mocodez_2096 b (2 * s)) (mocodez_2097 (b + s) (2 * s))
theorem mocodez_2099 (b s : Nat) : xall (fun _ a => xBm a) 3 b s codez_2099 := And.intro (mocodez_2095 b (2 * s)) (mocodez_2098 (b + s) (2 * s))
theorem mocodez_2100 (b s : Nat) : xall (fun _ a => xBm a) 1 b s codez_2100 := And.intro mobz_449 mobz_2497
theorem mocodez_2101 (b s : Nat) : xall (fun _ a => xBm a) 1 b s codez_2101 := And.intro mobz_1473 mobz_no
theorem mocodez_2102 (b s : Nat) : xall (fun _ a => xBm a) 2 b s codez_2102 := And.intro (mocodez_2100 b (2 * s)) (mocodez_2101 (b + s) (2 * s))
theorem mocodez_2103 (b s : Nat) : xall (fun _ a => xBm a) 1 b s codez_2103 := And.intro mobz_961 mobz_no
theorem mocodez_2104 (b s : Nat) : xall (fun _ a => xBm a) 1 b s codez_2104 := And.intro mobz_1985 mobz_no
theorem mocodez_2105 (b s : Nat) : xall (fun _ a => xBm a) 2 b s codez_2105 := And.intro (mocodez_2103 b (2 * s)) (mocodez_2104 (b + s) (2 * s))
theorem mocodez_2106 (b s : Nat) : xall (fun _ a => xBm a) 3 b s codez_2106 := And.intro (mocodez_2102 b (2 * s)) (mocodez_2105 (b + s) (2 * s))
theorem mocodez_2107 (b s : Nat) : xall (fun _ a => xBm a) 4 b s codez_2107 := And.intro (mocodez_2099 b (2 * s)) (mocodez_2106 (b + s) (2 * s))
theorem mocodez_2108 (b s : Nat) : xall (fun _ a => xBm a) 5 b s codez_2108 := And.intro (mocodez_2092 b (2 * s)) (mocodez_2107 (b + s) (2 * s))
theorem mocodez_2109 (b s : Nat) : xall (fun _ a => xBm a) 6 b s codez_2109 := And.intro (mocodez_2077 b (2 * s)) (mocodez_2108 (b + s) (2 * s))
theorem mocodez_2110 (b s : Nat) : xall (fun _ a => xBm a) 1 b s codez_2110 := And.intro mobz_33 mobz_2081
theorem mocodez_2111 (b s : Nat) : xall (fun _ a => xBm a) 1 b s codez_2111 := And.intro mobz_1057 mobz_no
theorem mocodez_2112 (b s : Nat) : xall (fun _ a => xBm a) 2 b s codez_2112 := And.intro (mocodez_2110 b (2 * s)) (mocodez_2111 (b + s) (2 * s))
theorem mocodez_2113 (b s : Nat) : xall (fun _ a => xBm a) 1 b s codez_2113 := And.intro mobz_545 mobz_no
theorem mocodez_2114 (b s : Nat) : xall (fun _ a => xBm a) 1 b s codez_2114 := And.intro mobz_1569 mobz_no
theorem mocodez_2115 (b s : Nat) : xall (fun _ a => xBm a) 2 b s codez_2115 := And.intro (mocodez_2113 b (2 * s)) (mocodez_2114 (b + s) (2 * s))
theorem mocodez_2116 (b s : Nat) : xall (fun _ a => xBm a) 3 b s codez_2116 := And.intro (mocodez_2112 b (2 * s)) (mocodez_2115 (b + s) (2 * s))
theorem mocodez_2117 (b s : Nat) : xall (fun _ a => xBm a) 1 b s codez_2117 := And.intro mobz_289 mobz_2337
theorem mocodez_2118 (b s : Nat) : xall (fun _ a => xBm a) 1 b s codez_2118 := And.intro mobz_1313 mobz_no
theorem mocodez_2119 (b s : Nat) : xall (fun _ a => xBm a) 2 b s codez_2119 := And.intro (mocodez_2117 b (2 * s)) (mocodez_2118 (b + s) (2 * s))
theorem mocodez_2120 (b s : Nat) : xall (fun _ a => xBm a) 1 b s codez_2120 := And.intro mobz_801 mobz_no
theorem mocodez_2121 (b s : Nat) : xall (fun _ a => xBm a) 1 b s codez_2121 := And.intro mobz_1825 mobz_no
theorem mocodez_2122 (b s : Nat) : xall (fun _ a => xBm a) 2 b s codez_2122 := And.intro (mocodez_2120 b (2 * s)) (mocodez_2121 (b + s) (2 * s))
theorem mocodez_2123 (b s : Nat) : xall (fun _ a => xBm a) 3 b s codez_2123 := And.intro (mocodez_2119 b (2 * s)) (mocodez_2122 (b + s) (2 * s))
theorem mocodez_2124 (b s : Nat) : xall (fun _ a => xBm a) 4 b s codez_2124 := And.intro (mocodez_2116 b (2 * s)) (mocodez_2123 (b + s) (2 * s))
theorem mocodez_2125 (b s : Nat) : xall (fun _ a => xBm a) 1 b s codez_2125 := And.intro mobz_161 mobz_2209
theorem mocodez_2126 (b s : Nat) : xall (fun _ a => xBm a) 1 b s codez_2126 := And.intro mobz_1185 mobz_no
theorem mocodez_2127 (b s : Nat) : xall (fun _ a => xBm a) 2 b s codez_2127 := And.intro (mocodez_2125 b (2 * s)) (mocodez_2126 (b + s) (2 * s))
theorem mocodez_2128 (b s : Nat) : xall (fun _ a => xBm a) 1 b s codez_2128 := And.intro mobz_673 mobz_no
theorem mocodez_2129 (b s : Nat) : xall (fun _ a => xBm a) 1 b s codez_2129 := And.intro mobz_1697 mobz_no
theorem mocodez_2130 (b s : Nat) : xall (fun _ a => xBm a) 2 b s codez_2130 := And.intro (mocodez_2128 b (2 * s)) (mocodez_2129 (b + s) (2 * s))
theorem mocodez_2131 (b s : Nat) : xall (fun _ a => xBm a) 3 b s codez_2131 := And.intro (mocodez_2127 b (2 * s)) (mocodez_2130 (b + s) (2 * s))
theorem mocodez_2132 (b s : Nat) : xall (fun _ a => xBm a) 1 b s codez_2132 := And.intro mobz_417 mobz_2465
theorem mocodez_2133 (b s : Nat) : xall (fun _ a => xBm a) 1 b s codez_2133 := And.intro mobz_1441 mobz_no
theorem mocodez_2134 (b s : Nat) : xall (fun _ a => xBm a) 2 b s codez_2134 := And.intro (mocodez_2132 b (2 * s)) (mocodez_2133 (b + s) (2 * s))
theorem mocodez_2135 (b s : Nat) : xall (fun _ a => xBm a) 1 b s codez_2135 := And.intro mobz_929 mobz_no
theorem mocodez_2136 (b s : Nat) : xall (fun _ a => xBm a) 1 b s codez_2136 := And.intro mobz_1953 mobz_no
theorem mocodez_2137 (b s : Nat) : xall (fun _ a => xBm a) 2 b s codez_2137 := And.intro (mocodez_2135 b (2 * s)) (mocodez_2136 (b + s) (2 * s))
theorem mocodez_2138 (b s : Nat) : xall (fun _ a => xBm a) 3 b s codez_2138 := And.intro (mocodez_2134 b (2 * s)) (mocodez_2137 (b + s) (2 * s))
theorem mocodez_2139 (b s : Nat) : xall (fun _ a => xBm a) 4 b s codez_2139 := And.intro (mocodez_2131 b (2 * s)) (mocodez_2138 (b + s) (2 * s))
theorem mocodez_2140 (b s : Nat) : xall (fun _ a => xBm a) 5 b s codez_2140 := And.intro (mocodez_2124 b (2 * s)) (mocodez_2139 (b + s) (2 * s))
theorem mocodez_2141 (b s : Nat) : xall (fun _ a => xBm a) 1 b s codez_2141 := And.intro mobz_97 mobz_2145
theorem mocodez_2142 (b s : Nat) : xall (fun _ a => xBm a) 1 b s codez_2142 := And.intro mobz_1121 mobz_no
theorem mocodez_2143 (b s : Nat) : xall (fun _ a => xBm a) 2 b s codez_2143 := And.intro (mocodez_2141 b (2 * s)) (mocodez_2142 (b + s) (2 * s))
theorem mocodez_2144 (b s : Nat) : xall (fun _ a => xBm a) 1 b s codez_2144 := And.intro mobz_609 mobz_no
theorem mocodez_2145 (b s : Nat) : xall (fun _ a => xBm a) 1 b s codez_2145 := And.intro mobz_1633 mobz_no
theorem mocodez_2146 (b s : Nat) : xall (fun _ a => xBm a) 2 b s codez_2146 := And.intro (mocodez_2144 b (2 * s)) (mocodez_2145 (b + s) (2 * s))
theorem mocodez_2147 (b s : Nat) : xall (fun _ a => xBm a) 3 b s codez_2147 := And.intro (mocodez_2143 b (2 * s)) (mocodez_2146 (b + s) (2 * s))
theorem mocodez_2148 (b s : Nat) : xall (fun _ a => xBm a) 1 b s codez_2148 := And.intro mobz_353 mobz_2401
theorem mocodez_2149 (b s : Nat) : xall (fun _ a => xBm a) 1 b s codez_2149 := And.intro mobz_1377 mobz_no
theorem mocodez_2150 (b s : Nat) : xall (fun _ a => xBm a) 2 b s codez_2150 := And.intro (mocodez_2148 b (2 * s)) (mocodez_2149 (b + s) (2 * s))
theorem mocodez_2151 (b s : Nat) : xall (fun _ a => xBm a) 1 b s codez_2151 := And.intro mobz_865 mobz_no
theorem mocodez_2152 (b s : Nat) : xall (fun _ a => xBm a) 1 b s codez_2152 := And.intro mobz_1889 mobz_no
theorem mocodez_2153 (b s : Nat) : xall (fun _ a => xBm a) 2 b s codez_2153 := And.intro (mocodez_2151 b (2 * s)) (mocodez_2152 (b + s) (2 * s))
theorem mocodez_2154 (b s : Nat) : xall (fun _ a => xBm a) 3 b s codez_2154 := And.intro (mocodez_2150 b (2 * s)) (mocodez_2153 (b + s) (2 * s))
theorem mocodez_2155 (b s : Nat) : xall (fun _ a => xBm a) 4 b s codez_2155 := And.intro (mocodez_2147 b (2 * s)) (mocodez_2154 (b + s) (2 * s))
theorem mocodez_2156 (b s : Nat) : xall (fun _ a => xBm a) 1 b s codez_2156 := And.intro mobz_225 mobz_2273
theorem mocodez_2157 (b s : Nat) : xall (fun _ a => xBm a) 1 b s codez_2157 := And.intro mobz_1249 mobz_no
theorem mocodez_2158 (b s : Nat) : xall (fun _ a => xBm a) 2 b s codez_2158 := And.intro (mocodez_2156 b (2 * s)) (mocodez_2157 (b + s) (2 * s))
theorem mocodez_2159 (b s : Nat) : xall (fun _ a => xBm a) 1 b s codez_2159 := And.intro mobz_737 mobz_no
theorem mocodez_2160 (b s : Nat) : xall (fun _ a => xBm a) 1 b s codez_2160 := And.intro mobz_1761 mobz_no
theorem mocodez_2161 (b s : Nat) : xall (fun _ a => xBm a) 2 b s codez_2161 := And.intro (mocodez_2159 b (2 * s)) (mocodez_2160 (b + s) (2 * s))
theorem mocodez_2162 (b s : Nat) : xall (fun _ a => xBm a) 3 b s codez_2162 := And.intro (mocodez_2158 b (2 * s)) (mocodez_2161 (b + s) (2 * s))
theorem mocodez_2163 (b s : Nat) : xall (fun _ a => xBm a) 1 b s codez_2163 := And.intro mobz_481 mobz_2529
theorem mocodez_2164 (b s : Nat) : xall (fun _ a => xBm a) 1 b s codez_2164 := And.intro mobz_1505 mobz_no
theorem mocodez_2165 (b s : Nat) : xall (fun _ a => xBm a) 2 b s codez_2165 := And.intro (mocodez_2163 b (2 * s)) (mocodez_2164 (b + s) (2 * s))
theorem mocodez_2166 (b s : Nat) : xall (fun _ a => xBm a) 1 b s codez_2166 := And.intro mobz_993 mobz_no
theorem mocodez_2167 (b s : Nat) : xall (fun _ a => xBm a) 1 b s codez_2167 := And.intro mobz_2017 mobz_no
theorem mocodez_2168 (b s : Nat) : xall (fun _ a => xBm a) 2 b s codez_2168 := And.intro (mocodez_2166 b (2 * s)) (mocodez_2167 (b + s) (2 * s))
theorem mocodez_2169 (b s : Nat) : xall (fun _ a => xBm a) 3 b s codez_2169 := And.intro (mocodez_2165 b (2 * s)) (mocodez_2168 (b + s) (2 * s))
theorem mocodez_2170 (b s : Nat) : xall (fun _ a => xBm a) 4 b s codez_2170 := And.intro (mocodez_2162 b (2 * s)) (mocodez_2169 (b + s) (2 * s))
theorem mocodez_2171 (b s : Nat) : xall (fun _ a => xBm a) 5 b s codez_2171 := And.intro (mocodez_2155 b (2 * s)) (mocodez_2170 (b + s) (2 * s))
theorem mocodez_2172 (b s : Nat) : xall (fun _ a => xBm a) 6 b s codez_2172 := And.intro (mocodez_2140 b (2 * s)) (mocodez_2171 (b + s) (2 * s))
theorem mocodez_2173 (b s : Nat) : xall (fun _ a => xBm a) 7 b s codez_2173 := And.intro (mocodez_2109 b (2 * s)) (mocodez_2172 (b + s) (2 * s))
theorem mocodez_2174 (b s : Nat) : xall (fun _ a => xBm a) 1 b s codez_2174 := And.intro mobz_17 mobz_2065
theorem mocodez_2175 (b s : Nat) : xall (fun _ a => xBm a) 1 b s codez_2175 := And.intro mobz_1041 mobz_no
theorem mocodez_2176 (b s : Nat) : xall (fun _ a => xBm a) 2 b s codez_2176 := And.intro (mocodez_2174 b (2 * s)) (mocodez_2175 (b + s) (2 * s))
theorem mocodez_2177 (b s : Nat) : xall (fun _ a => xBm a) 1 b s codez_2177 := And.intro mobz_529 mobz_no
theorem mocodez_2178 (b s : Nat) : xall (fun _ a => xBm a) 1 b s codez_2178 := And.intro mobz_1553 mobz_no
theorem mocodez_2179 (b s : Nat) : xall (fun _ a => xBm a) 2 b s codez_2179 := And.intro (mocodez_2177 b (2 * s)) (mocodez_2178 (b + s) (2 * s))
theorem mocodez_2180 (b s : Nat) : xall (fun _ a => xBm a) 3 b s codez_2180 := And.intro (mocodez_2176 b (2 * s)) (mocodez_2179 (b + s) (2 * s))
theorem mocodez_2181 (b s : Nat) : xall (fun _ a => xBm a) 1 b s codez_2181 := And.intro mobz_273 mobz_2321
theorem mocodez_2182 (b s : Nat) : xall (fun _ a => xBm a) 1 b s codez_2182 := And.intro mobz_1297 mobz_no
theorem mocodez_2183 (b s : Nat) : xall (fun _ a => xBm a) 2 b s codez_2183 := And.intro (mocodez_2181 b (2 * s)) (mocodez_2182 (b + s) (2 * s))
theorem mocodez_2184 (b s : Nat) : xall (fun _ a => xBm a) 1 b s codez_2184 := And.intro mobz_785 mobz_no
theorem mocodez_2185 (b s : Nat) : xall (fun _ a => xBm a) 1 b s codez_2185 := And.intro mobz_1809 mobz_no
theorem mocodez_2186 (b s : Nat) : xall (fun _ a => xBm a) 2 b s codez_2186 := And.intro (mocodez_2184 b (2 * s)) (mocodez_2185 (b + s) (2 * s))
theorem mocodez_2187 (b s : Nat) : xall (fun _ a => xBm a) 3 b s codez_2187 := And.intro (mocodez_2183 b (2 * s)) (mocodez_2186 (b + s) (2 * s))
theorem mocodez_2188 (b s : Nat) : xall (fun _ a => xBm a) 4 b s codez_2188 := And.intro (mocodez_2180 b (2 * s)) (mocodez_2187 (b + s) (2 * s))
theorem mocodez_2189 (b s : Nat) : xall (fun _ a => xBm a) 1 b s codez_2189 := And.intro mobz_145 mobz_2193
theorem mocodez_2190 (b s : Nat) : xall (fun _ a => xBm a) 1 b s codez_2190 := And.intro mobz_1169 mobz_no
theorem mocodez_2191 (b s : Nat) : xall (fun _ a => xBm a) 2 b s codez_2191 := And.intro (mocodez_2189 b (2 * s)) (mocodez_2190 (b + s) (2 * s))
theorem mocodez_2192 (b s : Nat) : xall (fun _ a => xBm a) 1 b s codez_2192 := And.intro mobz_657 mobz_no
theorem mocodez_2193 (b s : Nat) : xall (fun _ a => xBm a) 1 b s codez_2193 := And.intro mobz_1681 mobz_no
theorem mocodez_2194 (b s : Nat) : xall (fun _ a => xBm a) 2 b s codez_2194 := And.intro (mocodez_2192 b (2 * s)) (mocodez_2193 (b + s) (2 * s))
theorem mocodez_2195 (b s : Nat) : xall (fun _ a => xBm a) 3 b s codez_2195 := And.intro (mocodez_2191 b (2 * s)) (mocodez_2194 (b + s) (2 * s))
theorem mocodez_2196 (b s : Nat) : xall (fun _ a => xBm a) 1 b s codez_2196 := And.intro mobz_401 mobz_2449
theorem mocodez_2197 (b s : Nat) : xall (fun _ a => xBm a) 1 b s codez_2197 := And.intro mobz_1425 mobz_no
theorem mocodez_2198 (b s : Nat) : xall (fun _ a => xBm a) 2 b s codez_2198 := And.intro (mocodez_2196 b (2 * s)) (mocodez_2197 (b + s) (2 * s))
theorem mocodez_2199 (b s : Nat) : xall (fun _ a => xBm a) 1 b s codez_2199 := And.intro mobz_913 mobz_no
theorem mocodez_2200 (b s : Nat) : xall (fun _ a => xBm a) 1 b s codez_2200 := And.intro mobz_1937 mobz_no
theorem mocodez_2201 (b s : Nat) : xall (fun _ a => xBm a) 2 b s codez_2201 := And.intro (mocodez_2199 b (2 * s)) (mocodez_2200 (b + s) (2 * s))
theorem mocodez_2202 (b s : Nat) : xall (fun _ a => xBm a) 3 b s codez_2202 := And.intro (mocodez_2198 b (2 * s)) (mocodez_2201 (b + s) (2 * s))
theorem mocodez_2203 (b s : Nat) : xall (fun _ a => xBm a) 4 b s codez_2203 := And.intro (mocodez_2195 b (2 * s)) (mocodez_2202 (b + s) (2 * s))
theorem mocodez_2204 (b s : Nat) : xall (fun _ a => xBm a) 5 b s codez_2204 := And.intro (mocodez_2188 b (2 * s)) (mocodez_2203 (b + s) (2 * s))
theorem mocodez_2205 (b s : Nat) : xall (fun _ a => xBm a) 1 b s codez_2205 := And.intro mobz_81 mobz_2129
theorem mocodez_2206 (b s : Nat) : xall (fun _ a => xBm a) 1 b s codez_2206 := And.intro mobz_1105 mobz_no
theorem mocodez_2207 (b s : Nat) : xall (fun _ a => xBm a) 2 b s codez_2207 := And.intro (mocodez_2205 b (2 * s)) (mocodez_2206 (b + s) (2 * s))
theorem mocodez_2208 (b s : Nat) : xall (fun _ a => xBm a) 1 b s codez_2208 := And.intro mobz_593 mobz_no
theorem mocodez_2209 (b s : Nat) : xall (fun _ a => xBm a) 1 b s codez_2209 := And.intro mobz_1617 mobz_no
theorem mocodez_2210 (b s : Nat) : xall (fun _ a => xBm a) 2 b s codez_2210 := And.intro (mocodez_2208 b (2 * s)) (mocodez_2209 (b + s) (2 * s))
theorem mocodez_2211 (b s : Nat) : xall (fun _ a => xBm a) 3 b s codez_2211 := And.intro (mocodez_2207 b (2 * s)) (mocodez_2210 (b + s) (2 * s))
theorem mocodez_2212 (b s : Nat) : xall (fun _ a => xBm a) 1 b s codez_2212 := And.intro mobz_337 mobz_2385
theorem mocodez_2213 (b s : Nat) : xall (fun _ a => xBm a) 1 b s codez_2213 := And.intro mobz_1361 mobz_no
theorem mocodez_2214 (b s : Nat) : xall (fun _ a => xBm a) 2 b s codez_2214 := And.intro (mocodez_2212 b (2 * s)) (mocodez_2213 (b + s) (2 * s))
theorem mocodez_2215 (b s : Nat) : xall (fun _ a => xBm a) 1 b s codez_2215 := And.intro mobz_849 mobz_no
theorem mocodez_2216 (b s : Nat) : xall (fun _ a => xBm a) 1 b s codez_2216 := And.intro mobz_1873 mobz_no
theorem mocodez_2217 (b s : Nat) : xall (fun _ a => xBm a) 2 b s codez_2217 := And.intro (mocodez_2215 b (2 * s)) (mocodez_2216 (b + s) (2 * s))
theorem mocodez_2218 (b s : Nat) : xall (fun _ a => xBm a) 3 b s codez_2218 := And.intro (mocodez_2214 b (2 * s)) (mocodez_2217 (b + s) (2 * s))
theorem mocodez_2219 (b s : Nat) : xall (fun _ a => xBm a) 4 b s codez_2219 := And.intro (mocodez_2211 b (2 * s)) (mocodez_2218 (b + s) (2 * s))
theorem mocodez_2220 (b s : Nat) : xall (fun _ a => xBm a) 1 b s codez_2220 := And.intro mobz_209 mobz_2257
theorem mocodez_2221 (b s : Nat) : xall (fun _ a => xBm a) 1 b s codez_2221 := And.intro mobz_1233 mobz_no
theorem mocodez_2222 (b s : Nat) : xall (fun _ a => xBm a) 2 b s codez_2222 := And.intro (mocodez_2220 b (2 * s)) (mocodez_2221 (b + s) (2 * s))
theorem mocodez_2223 (b s : Nat) : xall (fun _ a => xBm a) 1 b s codez_2223 := And.intro mobz_721 mobz_no
theorem mocodez_2224 (b s : Nat) : xall (fun _ a => xBm a) 1 b s codez_2224 := And.intro mobz_1745 mobz_no
theorem mocodez_2225 (b s : Nat) : xall (fun _ a => xBm a) 2 b s codez_2225 := And.intro (mocodez_2223 b (2 * s)) (mocodez_2224 (b + s) (2 * s))
theorem mocodez_2226 (b s : Nat) : xall (fun _ a => xBm a) 3 b s codez_2226 := And.intro (mocodez_2222 b (2 * s)) (mocodez_2225 (b + s) (2 * s))
theorem mocodez_2227 (b s : Nat) : xall (fun _ a => xBm a) 1 b s codez_2227 := And.intro mobz_465 mobz_2513
theorem mocodez_2228 (b s : Nat) : xall (fun _ a => xBm a) 1 b s codez_2228 := And.intro mobz_1489 mobz_no
theorem mocodez_2229 (b s : Nat) : xall (fun _ a => xBm a) 2 b s codez_2229 := And.intro (mocodez_2227 b (2 * s)) (mocodez_2228 (b + s) (2 * s))
theorem mocodez_2230 (b s : Nat) : xall (fun _ a => xBm a) 1 b s codez_2230 := And.intro mobz_977 mobz_no
theorem mocodez_2231 (b s : Nat) : xall (fun _ a => xBm a) 1 b s codez_2231 := And.intro mobz_2001 mobz_no
theorem mocodez_2232 (b s : Nat) : xall (fun _ a => xBm a) 2 b s codez_2232 := And.intro (mocodez_2230 b (2 * s)) (mocodez_2231 (b + s) (2 * s))
theorem mocodez_2233 (b s : Nat) : xall (fun _ a => xBm a) 3 b s codez_2233 := And.intro (mocodez_2229 b (2 * s)) (mocodez_2232 (b + s) (2 * s))
theorem mocodez_2234 (b s : Nat) : xall (fun _ a => xBm a) 4 b s codez_2234 := And.intro (mocodez_2226 b (2 * s)) (mocodez_2233 (b + s) (2 * s))
theorem mocodez_2235 (b s : Nat) : xall (fun _ a => xBm a) 5 b s codez_2235 := And.intro (mocodez_2219 b (2 * s)) (mocodez_2234 (b + s) (2 * s))
theorem mocodez_2236 (b s : Nat) : xall (fun _ a => xBm a) 6 b s codez_2236 := And.intro (mocodez_2204 b (2 * s)) (mocodez_2235 (b + s) (2 * s))
theorem mocodez_2237 (b s : Nat) : xall (fun _ a => xBm a) 1 b s codez_2237 := And.intro mobz_49 mobz_2097
theorem mocodez_2238 (b s : Nat) : xall (fun _ a => xBm a) 1 b s codez_2238 := And.intro mobz_1073 mobz_no
theorem mocodez_2239 (b s : Nat) : xall (fun _ a => xBm a) 2 b s codez_2239 := And.intro (mocodez_2237 b (2 * s)) (mocodez_2238 (b + s) (2 * s))
theorem mocodez_2240 (b s : Nat) : xall (fun _ a => xBm a) 1 b s codez_2240 := And.intro mobz_561 mobz_no
theorem mocodez_2241 (b s : Nat) : xall (fun _ a => xBm a) 1 b s codez_2241 := And.intro mobz_1585 mobz_no
theorem mocodez_2242 (b s : Nat) : xall (fun _ a => xBm a) 2 b s codez_2242 := And.intro (mocodez_2240 b (2 * s)) (mocodez_2241 (b + s) (2 * s))
theorem mocodez_2243 (b s : Nat) : xall (fun _ a => xBm a) 3 b s codez_2243 := And.intro (mocodez_2239 b (2 * s)) (mocodez_2242 (b + s) (2 * s))
theorem mocodez_2244 (b s : Nat) : xall (fun _ a => xBm a) 1 b s codez_2244 := And.intro mobz_305 mobz_2353
theorem mocodez_2245 (b s : Nat) : xall (fun _ a => xBm a) 1 b s codez_2245 := And.intro mobz_1329 mobz_no
theorem mocodez_2246 (b s : Nat) : xall (fun _ a => xBm a) 2 b s codez_2246 := And.intro (mocodez_2244 b (2 * s)) (mocodez_2245 (b + s) (2 * s))
theorem mocodez_2247 (b s : Nat) : xall (fun _ a => xBm a) 1 b s codez_2247 := And.intro mobz_817 mobz_no
theorem mocodez_2248 (b s : Nat) : xall (fun _ a => xBm a) 1 b s codez_2248 := And.intro mobz_1841 mobz_no
theorem mocodez_2249 (b s : Nat) : xall (fun _ a => xBm a) 2 b s codez_2249 := And.intro (mocodez_2247 b (2 * s)) (mocodez_2248 (b + s) (2 * s))
theorem mocodez_2250 (b s : Nat) : xall (fun _ a => xBm a) 3 b s codez_2250 := And.intro (mocodez_2246 b (2 * s)) (mocodez_2249 (b + s) (2 * s))
theorem mocodez_2251 (b s : Nat) : xall (fun _ a => xBm a) 4 b s codez_2251 := And.intro (mocodez_2243 b (2 * s)) (mocodez_2250 (b + s) (2 * s))
theorem mocodez_2252 (b s : Nat) : xall (fun _ a => xBm a) 1 b s codez_2252 := And.intro mobz_177 mobz_2225
theorem mocodez_2253 (b s : Nat) : xall (fun _ a => xBm a) 1 b s codez_2253 := And.intro mobz_1201 mobz_no
theorem mocodez_2254 (b s : Nat) : xall (fun _ a => xBm a) 2 b s codez_2254 := And.intro (mocodez_2252 b (2 * s)) (mocodez_2253 (b + s) (2 * s))
theorem mocodez_2255 (b s : Nat) : xall (fun _ a => xBm a) 1 b s codez_2255 := And.intro mobz_689 mobz_no
theorem mocodez_2256 (b s : Nat) : xall (fun _ a => xBm a) 1 b s codez_2256 := And.intro mobz_1713 mobz_no
theorem mocodez_2257 (b s : Nat) : xall (fun _ a => xBm a) 2 b s codez_2257 := And.intro (mocodez_2255 b (2 * s)) (mocodez_2256 (b + s) (2 * s))
theorem mocodez_2258 (b s : Nat) : xall (fun _ a => xBm a) 3 b s codez_2258 := And.intro (mocodez_2254 b (2 * s)) (mocodez_2257 (b + s) (2 * s))
theorem mocodez_2259 (b s : Nat) : xall (fun _ a => xBm a) 1 b s codez_2259 := And.intro mobz_433 mobz_2481
theorem mocodez_2260 (b s : Nat) : xall (fun _ a => xBm a) 1 b s codez_2260 := And.intro mobz_1457 mobz_no
theorem mocodez_2261 (b s : Nat) : xall (fun _ a => xBm a) 2 b s codez_2261 := And.intro (mocodez_2259 b (2 * s)) (mocodez_2260 (b + s) (2 * s))
theorem mocodez_2262 (b s : Nat) : xall (fun _ a => xBm a) 1 b s codez_2262 := And.intro mobz_945 mobz_no
theorem mocodez_2263 (b s : Nat) : xall (fun _ a => xBm a) 1 b s codez_2263 := And.intro mobz_1969 mobz_no
theorem mocodez_2264 (b s : Nat) : xall (fun _ a => xBm a) 2 b s codez_2264 := And.intro (mocodez_2262 b (2 * s)) (mocodez_2263 (b + s) (2 * s))
theorem mocodez_2265 (b s : Nat) : xall (fun _ a => xBm a) 3 b s codez_2265 := And.intro (mocodez_2261 b (2 * s)) (mocodez_2264 (b + s) (2 * s))
theorem mocodez_2266 (b s : Nat) : xall (fun _ a => xBm a) 4 b s codez_2266 := And.intro (mocodez_2258 b (2 * s)) (mocodez_2265 (b + s) (2 * s))
theorem mocodez_2267 (b s : Nat) : xall (fun _ a => xBm a) 5 b s codez_2267 := And.intro (mocodez_2251 b (2 * s)) (mocodez_2266 (b + s) (2 * s))
theorem mocodez_2268 (b s : Nat) : xall (fun _ a => xBm a) 1 b s codez_2268 := And.intro mobz_113 mobz_2161
theorem mocodez_2269 (b s : Nat) : xall (fun _ a => xBm a) 1 b s codez_2269 := And.intro mobz_1137 mobz_no
theorem mocodez_2270 (b s : Nat) : xall (fun _ a => xBm a) 2 b s codez_2270 := And.intro (mocodez_2268 b (2 * s)) (mocodez_2269 (b + s) (2 * s))
theorem mocodez_2271 (b s : Nat) : xall (fun _ a => xBm a) 1 b s codez_2271 := And.intro mobz_625 mobz_no
theorem mocodez_2272 (b s : Nat) : xall (fun _ a => xBm a) 1 b s codez_2272 := And.intro mobz_1649 mobz_no
theorem mocodez_2273 (b s : Nat) : xall (fun _ a => xBm a) 2 b s codez_2273 := And.intro (mocodez_2271 b (2 * s)) (mocodez_2272 (b + s) (2 * s))
theorem mocodez_2274 (b s : Nat) : xall (fun _ a => xBm a) 3 b s codez_2274 := And.intro (mocodez_2270 b (2 * s)) (mocodez_2273 (b + s) (2 * s))
theorem mocodez_2275 (b s : Nat) : xall (fun _ a => xBm a) 1 b s codez_2275 := And.intro mobz_369 mobz_2417
theorem mocodez_2276 (b s : Nat) : xall (fun _ a => xBm a) 1 b s codez_2276 := And.intro mobz_1393 mobz_no
theorem mocodez_2277 (b s : Nat) : xall (fun _ a => xBm a) 2 b s codez_2277 := And.intro (mocodez_2275 b (2 * s)) (mocodez_2276 (b + s) (2 * s))
theorem mocodez_2278 (b s : Nat) : xall (fun _ a => xBm a) 1 b s codez_2278 := And.intro mobz_881 mobz_no
theorem mocodez_2279 (b s : Nat) : xall (fun _ a => xBm a) 1 b s codez_2279 := And.intro mobz_1905 mobz_no
theorem mocodez_2280 (b s : Nat) : xall (fun _ a => xBm a) 2 b s codez_2280 := And.intro (mocodez_2278 b (2 * s)) (mocodez_2279 (b + s) (2 * s))
theorem mocodez_2281 (b s : Nat) : xall (fun _ a => xBm a) 3 b s codez_2281 := And.intro (mocodez_2277 b (2 * s)) (mocodez_2280 (b + s) (2 * s))
theorem mocodez_2282 (b s : Nat) : xall (fun _ a => xBm a) 4 b s codez_2282 := And.intro (mocodez_2274 b (2 * s)) (mocodez_2281 (b + s) (2 * s))
theorem mocodez_2283 (b s : Nat) : xall (fun _ a => xBm a) 1 b s codez_2283 := And.intro mobz_241 mobz_2289
theorem mocodez_2284 (b s : Nat) : xall (fun _ a => xBm a) 1 b s codez_2284 := And.intro mobz_1265 mobz_no
theorem mocodez_2285 (b s : Nat) : xall (fun _ a => xBm a) 2 b s codez_2285 := And.intro (mocodez_2283 b (2 * s)) (mocodez_2284 (b + s) (2 * s))
theorem mocodez_2286 (b s : Nat) : xall (fun _ a => xBm a) 1 b s codez_2286 := And.intro mobz_753 mobz_no
theorem mocodez_2287 (b s : Nat) : xall (fun _ a => xBm a) 1 b s codez_2287 := And.intro mobz_1777 mobz_no
theorem mocodez_2288 (b s : Nat) : xall (fun _ a => xBm a) 2 b s codez_2288 := And.intro (mocodez_2286 b (2 * s)) (mocodez_2287 (b + s) (2 * s))
theorem mocodez_2289 (b s : Nat) : xall (fun _ a => xBm a) 3 b s codez_2289 := And.intro (mocodez_2285 b (2 * s)) (mocodez_2288 (b + s) (2 * s))
theorem mocodez_2290 (b s : Nat) : xall (fun _ a => xBm a) 1 b s codez_2290 := And.intro mobz_497 mobz_no
theorem mocodez_2291 (b s : Nat) : xall (fun _ a => xBm a) 1 b s codez_2291 := And.intro mobz_1521 mobz_no
theorem mocodez_2292 (b s : Nat) : xall (fun _ a => xBm a) 2 b s codez_2292 := And.intro (mocodez_2290 b (2 * s)) (mocodez_2291 (b + s) (2 * s))
theorem mocodez_2293 (b s : Nat) : xall (fun _ a => xBm a) 1 b s codez_2293 := And.intro mobz_1009 mobz_no
theorem mocodez_2294 (b s : Nat) : xall (fun _ a => xBm a) 1 b s codez_2294 := And.intro mobz_2033 mobz_no
theorem mocodez_2295 (b s : Nat) : xall (fun _ a => xBm a) 2 b s codez_2295 := And.intro (mocodez_2293 b (2 * s)) (mocodez_2294 (b + s) (2 * s))
theorem mocodez_2296 (b s : Nat) : xall (fun _ a => xBm a) 3 b s codez_2296 := And.intro (mocodez_2292 b (2 * s)) (mocodez_2295 (b + s) (2 * s))
theorem mocodez_2297 (b s : Nat) : xall (fun _ a => xBm a) 4 b s codez_2297 := And.intro (mocodez_2289 b (2 * s)) (mocodez_2296 (b + s) (2 * s))
theorem mocodez_2298 (b s : Nat) : xall (fun _ a => xBm a) 5 b s codez_2298 := And.intro (mocodez_2282 b (2 * s)) (mocodez_2297 (b + s) (2 * s))
theorem mocodez_2299 (b s : Nat) : xall (fun _ a => xBm a) 6 b s codez_2299 := And.intro (mocodez_2267 b (2 * s)) (mocodez_2298 (b + s) (2 * s))
theorem mocodez_2300 (b s : Nat) : xall (fun _ a => xBm a) 7 b s codez_2300 := And.intro (mocodez_2236 b (2 * s)) (mocodez_2299 (b + s) (2 * s))
theorem mocodez_2301 (b s : Nat) : xall (fun _ a => xBm a) 8 b s codez_2301 := And.intro (mocodez_2173 b (2 * s)) (mocodez_2300 (b + s) (2 * s))
theorem mocodez_2302 (b s : Nat) : xall (fun _ a => xBm a) 1 b s codez_2302 := And.intro mobz_9 mobz_2057
theorem mocodez_2303 (b s : Nat) : xall (fun _ a => xBm a) 1 b s codez_2303 := And.intro mobz_1033 mobz_no
theorem mocodez_2304 (b s : Nat) : xall (fun _ a => xBm a) 2 b s codez_2304 := And.intro (mocodez_2302 b (2 * s)) (mocodez_2303 (b + s) (2 * s))
theorem mocodez_2305 (b s : Nat) : xall (fun _ a => xBm a) 1 b s codez_2305 := And.intro mobz_521 mobz_no
theorem mocodez_2306 (b s : Nat) : xall (fun _ a => xBm a) 1 b s codez_2306 := And.intro mobz_1545 mobz_no
theorem mocodez_2307 (b s : Nat) : xall (fun _ a => xBm a) 2 b s codez_2307 := And.intro (mocodez_2305 b (2 * s)) (mocodez_2306 (b + s) (2 * s))
theorem mocodez_2308 (b s : Nat) : xall (fun _ a => xBm a) 3 b s codez_2308 := And.intro (mocodez_2304 b (2 * s)) (mocodez_2307 (b + s) (2 * s))
theorem mocodez_2309 (b s : Nat) : xall (fun _ a => xBm a) 1 b s codez_2309 := And.intro mobz_265 mobz_2313
theorem mocodez_2310 (b s : Nat) : xall (fun _ a => xBm a) 1 b s codez_2310 := And.intro mobz_1289 mobz_no
theorem mocodez_2311 (b s : Nat) : xall (fun _ a => xBm a) 2 b s codez_2311 := And.intro (mocodez_2309 b (2 * s)) (mocodez_2310 (b + s) (2 * s))
theorem mocodez_2312 (b s : Nat) : xall (fun _ a => xBm a) 1 b s codez_2312 := And.intro mobz_777 mobz_no
theorem mocodez_2313 (b s : Nat) : xall (fun _ a => xBm a) 1 b s codez_2313 := And.intro mobz_1801 mobz_no
theorem mocodez_2314 (b s : Nat) : xall (fun _ a => xBm a) 2 b s codez_2314 := And.intro (mocodez_2312 b (2 * s)) (mocodez_2313 (b + s) (2 * s))
theorem mocodez_2315 (b s : Nat) : xall (fun _ a => xBm a) 3 b s codez_2315 := And.intro (mocodez_2311 b (2 * s)) (mocodez_2314 (b + s) (2 * s))
theorem mocodez_2316 (b s : Nat) : xall (fun _ a => xBm a) 4 b s codez_2316 := And.intro (mocodez_2308 b (2 * s)) (mocodez_2315 (b + s) (2 * s))
theorem mocodez_2317 (b s : Nat) : xall (fun _ a => xBm a) 1 b s codez_2317 := And.intro mobz_137 mobz_2185
theorem mocodez_2318 (b s : Nat) : xall (fun _ a => xBm a) 1 b s codez_2318 := And.intro mobz_1161 mobz_no
theorem mocodez_2319 (b s : Nat) : xall (fun _ a => xBm a) 2 b s codez_2319 := And.intro (mocodez_2317 b (2 * s)) (mocodez_2318 (b + s) (2 * s))
theorem mocodez_2320 (b s : Nat) : xall (fun _ a => xBm a) 1 b s codez_2320 := And.intro mobz_649 mobz_no
theorem mocodez_2321 (b s : Nat) : xall (fun _ a => xBm a) 1 b s codez_2321 := And.intro mobz_1673 mobz_no
theorem mocodez_2322 (b s : Nat) : xall (fun _ a => xBm a) 2 b s codez_2322 := And.intro (mocodez_2320 b (2 * s)) (mocodez_2321 (b + s) (2 * s))
theorem mocodez_2323 (b s : Nat) : xall (fun _ a => xBm a) 3 b s codez_2323 := And.intro (mocodez_2319 b (2 * s)) (mocodez_2322 (b + s) (2 * s))
theorem mocodez_2324 (b s : Nat) : xall (fun _ a => xBm a) 1 b s codez_2324 := And.intro mobz_393 mobz_2441
theorem mocodez_2325 (b s : Nat) : xall (fun _ a => xBm a) 1 b s codez_2325 := And.intro mobz_1417 mobz_no
theorem mocodez_2326 (b s : Nat) : xall (fun _ a => xBm a) 2 b s codez_2326 := And.intro (mocodez_2324 b (2 * s)) (mocodez_2325 (b + s) (2 * s))
theorem mocodez_2327 (b s : Nat) : xall (fun _ a => xBm a) 1 b s codez_2327 := And.intro mobz_905 mobz_no
theorem mocodez_2328 (b s : Nat) : xall (fun _ a => xBm a) 1 b s codez_2328 := And.intro mobz_1929 mobz_no
theorem mocodez_2329 (b s : Nat) : xall (fun _ a => xBm a) 2 b s codez_2329 := And.intro (mocodez_2327 b (2 * s)) (mocodez_2328 (b + s) (2 * s))
theorem mocodez_2330 (b s : Nat) : xall (fun _ a => xBm a) 3 b s codez_2330 := And.intro (mocodez_2326 b (2 * s)) (mocodez_2329 (b + s) (2 * s))
theorem mocodez_2331 (b s : Nat) : xall (fun _ a => xBm a) 4 b s codez_2331 := And.intro (mocodez_2323 b (2 * s)) (mocodez_2330 (b + s) (2 * s))
theorem mocodez_2332 (b s : Nat) : xall (fun _ a => xBm a) 5 b s codez_2332 := And.intro (mocodez_2316 b (2 * s)) (mocodez_2331 (b + s) (2 * s))
theorem mocodez_2333 (b s : Nat) : xall (fun _ a => xBm a) 1 b s codez_2333 := And.intro mobz_73 mobz_2121
theorem mocodez_2334 (b s : Nat) : xall (fun _ a => xBm a) 1 b s codez_2334 := And.intro mobz_1097 mobz_no
theorem mocodez_2335 (b s : Nat) : xall (fun _ a => xBm a) 2 b s codez_2335 := And.intro (mocodez_2333 b (2 * s)) (mocodez_2334 (b + s) (2 * s))
theorem mocodez_2336 (b s : Nat) : xall (fun _ a => xBm a) 1 b s codez_2336 := And.intro mobz_585 mobz_no
theorem mocodez_2337 (b s : Nat) : xall (fun _ a => xBm a) 1 b s codez_2337 := And.intro mobz_1609 mobz_no
theorem mocodez_2338 (b s : Nat) : xall (fun _ a => xBm a) 2 b s codez_2338 := And.intro (mocodez_2336 b (2 * s)) (mocodez_2337 (b + s) (2 * s))
theorem mocodez_2339 (b s : Nat) : xall (fun _ a => xBm a) 3 b s codez_2339 := And.intro (mocodez_2335 b (2 * s)) (mocodez_2338 (b + s) (2 * s))
theorem mocodez_2340 (b s : Nat) : xall (fun _ a => xBm a) 1 b s codez_2340 := And.intro mobz_329 mobz_2377
theorem mocodez_2341 (b s : Nat) : xall (fun _ a => xBm a) 1 b s codez_2341 := And.intro mobz_1353 mobz_no
theorem mocodez_2342 (b s : Nat) : xall (fun _ a => xBm a) 2 b s codez_2342 := And.intro (mocodez_2340 b (2 * s)) (mocodez_2341 (b + s) (2 * s))
theorem mocodez_2343 (b s : Nat) : xall (fun _ a => xBm a) 1 b s codez_2343 := And.intro mobz_841 mobz_no
theorem mocodez_2344 (b s : Nat) : xall (fun _ a => xBm a) 1 b s codez_2344 := And.intro mobz_1865 mobz_no
theorem mocodez_2345 (b s : Nat) : xall (fun _ a => xBm a) 2 b s codez_2345 := And.intro (mocodez_2343 b (2 * s)) (mocodez_2344 (b + s) (2 * s))
theorem mocodez_2346 (b s : Nat) : xall (fun _ a => xBm a) 3 b s codez_2346 := And.intro (mocodez_2342 b (2 * s)) (mocodez_2345 (b + s) (2 * s))
theorem mocodez_2347 (b s : Nat) : xall (fun _ a => xBm a) 4 b s codez_2347 := And.intro (mocodez_2339 b (2 * s)) (mocodez_2346 (b + s) (2 * s))
theorem mocodez_2348 (b s : Nat) : xall (fun _ a => xBm a) 1 b s codez_2348 := And.intro mobz_201 mobz_2249
theorem mocodez_2349 (b s : Nat) : xall (fun _ a => xBm a) 1 b s codez_2349 := And.intro mobz_1225 mobz_no
theorem mocodez_2350 (b s : Nat) : xall (fun _ a => xBm a) 2 b s codez_2350 := And.intro (mocodez_2348 b (2 * s)) (mocodez_2349 (b + s) (2 * s))
theorem mocodez_2351 (b s : Nat) : xall (fun _ a => xBm a) 1 b s codez_2351 := And.intro mobz_713 mobz_no
theorem mocodez_2352 (b s : Nat) : xall (fun _ a => xBm a) 1 b s codez_2352 := And.intro mobz_1737 mobz_no
theorem mocodez_2353 (b s : Nat) : xall (fun _ a => xBm a) 2 b s codez_2353 := And.intro (mocodez_2351 b (2 * s)) (mocodez_2352 (b + s) (2 * s))
theorem mocodez_2354 (b s : Nat) : xall (fun _ a => xBm a) 3 b s codez_2354 := And.intro (mocodez_2350 b (2 * s)) (mocodez_2353 (b + s) (2 * s))
theorem mocodez_2355 (b s : Nat) : xall (fun _ a => xBm a) 1 b s codez_2355 := And.intro mobz_457 mobz_2505
theorem mocodez_2356 (b s : Nat) : xall (fun _ a => xBm a) 1 b s codez_2356 := And.intro mobz_1481 mobz_no
theorem mocodez_2357 (b s : Nat) : xall (fun _ a => xBm a) 2 b s codez_2357 := And.intro (mocodez_2355 b (2 * s)) (mocodez_2356 (b + s) (2 * s))
theorem mocodez_2358 (b s : Nat) : xall (fun _ a => xBm a) 1 b s codez_2358 := And.intro mobz_969 mobz_no
theorem mocodez_2359 (b s : Nat) : xall (fun _ a => xBm a) 1 b s codez_2359 := And.intro mobz_1993 mobz_no
theorem mocodez_2360 (b s : Nat) : xall (fun _ a => xBm a) 2 b s codez_2360 := And.intro (mocodez_2358 b (2 * s)) (mocodez_2359 (b + s) (2 * s))
theorem mocodez_2361 (b s : Nat) : xall (fun _ a => xBm a) 3 b s codez_2361 := And.intro (mocodez_2357 b (2 * s)) (mocodez_2360 (b + s) (2 * s))
theorem mocodez_2362 (b s : Nat) : xall (fun _ a => xBm a) 4 b s codez_2362 := And.intro (mocodez_2354 b (2 * s)) (mocodez_2361 (b + s) (2 * s))
theorem mocodez_2363 (b s : Nat) : xall (fun _ a => xBm a) 5 b s codez_2363 := And.intro (mocodez_2347 b (2 * s)) (mocodez_2362 (b + s) (2 * s))
theorem mocodez_2364 (b s : Nat) : xall (fun _ a => xBm a) 6 b s codez_2364 := And.intro (mocodez_2332 b (2 * s)) (mocodez_2363 (b + s) (2 * s))
theorem mocodez_2365 (b s : Nat) : xall (fun _ a => xBm a) 1 b s codez_2365 := And.intro mobz_41 mobz_2089
theorem mocodez_2366 (b s : Nat) : xall (fun _ a => xBm a) 1 b s codez_2366 := And.intro mobz_1065 mobz_no
theorem mocodez_2367 (b s : Nat) : xall (fun _ a => xBm a) 2 b s codez_2367 := And.intro (mocodez_2365 b (2 * s)) (mocodez_2366 (b + s) (2 * s))
theorem mocodez_2368 (b s : Nat) : xall (fun _ a => xBm a) 1 b s codez_2368 := And.intro mobz_553 mobz_no
theorem mocodez_2369 (b s : Nat) : xall (fun _ a => xBm a) 1 b s codez_2369 := And.intro mobz_1577 mobz_no
theorem mocodez_2370 (b s : Nat) : xall (fun _ a => xBm a) 2 b s codez_2370 := And.intro (mocodez_2368 b (2 * s)) (mocodez_2369 (b + s) (2 * s))
theorem mocodez_2371 (b s : Nat) : xall (fun _ a => xBm a) 3 b s codez_2371 := And.intro (mocodez_2367 b (2 * s)) (mocodez_2370 (b + s) (2 * s))
theorem mocodez_2372 (b s : Nat) : xall (fun _ a => xBm a) 1 b s codez_2372 := And.intro mobz_297 mobz_2345
theorem mocodez_2373 (b s : Nat) : xall (fun _ a => xBm a) 1 b s codez_2373 := And.intro mobz_1321 mobz_no
theorem mocodez_2374 (b s : Nat) : xall (fun _ a => xBm a) 2 b s codez_2374 := And.intro (mocodez_2372 b (2 * s)) (mocodez_2373 (b + s) (2 * s))
theorem mocodez_2375 (b s : Nat) : xall (fun _ a => xBm a) 1 b s codez_2375 := And.intro mobz_809 mobz_no
theorem mocodez_2376 (b s : Nat) : xall (fun _ a => xBm a) 1 b s codez_2376 := And.intro mobz_1833 mobz_no
theorem mocodez_2377 (b s : Nat) : xall (fun _ a => xBm a) 2 b s codez_2377 := And.intro (mocodez_2375 b (2 * s)) (mocodez_2376 (b + s) (2 * s))
theorem mocodez_2378 (b s : Nat) : xall (fun _ a => xBm a) 3 b s codez_2378 := And.intro (mocodez_2374 b (2 * s)) (mocodez_2377 (b + s) (2 * s))
theorem mocodez_2379 (b s : Nat) : xall (fun _ a => xBm a) 4 b s codez_2379 := And.intro (mocodez_2371 b (2 * s)) (mocodez_2378 (b + s) (2 * s))
theorem mocodez_2380 (b s : Nat) : xall (fun _ a => xBm a) 1 b s codez_2380 := And.intro mobz_169 mobz_2217
theorem mocodez_2381 (b s : Nat) : xall (fun _ a => xBm a) 1 b s codez_2381 := And.intro mobz_1193 mobz_no
theorem mocodez_2382 (b s : Nat) : xall (fun _ a => xBm a) 2 b s codez_2382 := And.intro (mocodez_2380 b (2 * s)) (mocodez_2381 (b + s) (2 * s))
theorem mocodez_2383 (b s : Nat) : xall (fun _ a => xBm a) 1 b s codez_2383 := And.intro mobz_681 mobz_no
theorem mocodez_2384 (b s : Nat) : xall (fun _ a => xBm a) 1 b s codez_2384 := And.intro mobz_1705 mobz_no
theorem mocodez_2385 (b s : Nat) : xall (fun _ a => xBm a) 2 b s codez_2385 := And.intro (mocodez_2383 b (2 * s)) (mocodez_2384 (b + s) (2 * s))
theorem mocodez_2386 (b s : Nat) : xall (fun _ a => xBm a) 3 b s codez_2386 := And.intro (mocodez_2382 b (2 * s)) (mocodez_2385 (b + s) (2 * s))
theorem mocodez_2387 (b s : Nat) : xall (fun _ a => xBm a) 1 b s codez_2387 := And.intro mobz_425 mobz_2473
theorem mocodez_2388 (b s : Nat) : xall (fun _ a => xBm a) 1 b s codez_2388 := And.intro mobz_1449 mobz_no
theorem mocodez_2389 (b s : Nat) : xall (fun _ a => xBm a) 2 b s codez_2389 := And.intro (mocodez_2387 b (2 * s)) (mocodez_2388 (b + s) (2 * s))
theorem mocodez_2390 (b s : Nat) : xall (fun _ a => xBm a) 1 b s codez_2390 := And.intro mobz_937 mobz_no
theorem mocodez_2391 (b s : Nat) : xall (fun _ a => xBm a) 1 b s codez_2391 := And.intro mobz_1961 mobz_no
theorem mocodez_2392 (b s : Nat) : xall (fun _ a => xBm a) 2 b s codez_2392 := And.intro (mocodez_2390 b (2 * s)) (mocodez_2391 (b + s) (2 * s))
theorem mocodez_2393 (b s : Nat) : xall (fun _ a => xBm a) 3 b s codez_2393 := And.intro (mocodez_2389 b (2 * s)) (mocodez_2392 (b + s) (2 * s))
theorem mocodez_2394 (b s : Nat) : xall (fun _ a => xBm a) 4 b s codez_2394 := And.intro (mocodez_2386 b (2 * s)) (mocodez_2393 (b + s) (2 * s))
theorem mocodez_2395 (b s : Nat) : xall (fun _ a => xBm a) 5 b s codez_2395 := And.intro (mocodez_2379 b (2 * s)) (mocodez_2394 (b + s) (2 * s))
theorem mocodez_2396 (b s : Nat) : xall (fun _ a => xBm a) 1 b s codez_2396 := And.intro mobz_105 mobz_2153
theorem mocodez_2397 (b s : Nat) : xall (fun _ a => xBm a) 1 b s codez_2397 := And.intro mobz_1129 mobz_no
theorem mocodez_2398 (b s : Nat) : xall (fun _ a => xBm a) 2 b s codez_2398 := And.intro (mocodez_2396 b (2 * s)) (mocodez_2397 (b + s) (2 * s))
theorem mocodez_2399 (b s : Nat) : xall (fun _ a => xBm a) 1 b s codez_2399 := And.intro mobz_617 mobz_no
theorem mocodez_2400 (b s : Nat) : xall (fun _ a => xBm a) 1 b s codez_2400 := And.intro mobz_1641 mobz_no
theorem mocodez_2401 (b s : Nat) : xall (fun _ a => xBm a) 2 b s codez_2401 := And.intro (mocodez_2399 b (2 * s)) (mocodez_2400 (b + s) (2 * s))
theorem mocodez_2402 (b s : Nat) : xall (fun _ a => xBm a) 3 b s codez_2402 := And.intro (mocodez_2398 b (2 * s)) (mocodez_2401 (b + s) (2 * s))
theorem mocodez_2403 (b s : Nat) : xall (fun _ a => xBm a) 1 b s codez_2403 := And.intro mobz_361 mobz_2409
theorem mocodez_2404 (b s : Nat) : xall (fun _ a => xBm a) 1 b s codez_2404 := And.intro mobz_1385 mobz_no
theorem mocodez_2405 (b s : Nat) : xall (fun _ a => xBm a) 2 b s codez_2405 := And.intro (mocodez_2403 b (2 * s)) (mocodez_2404 (b + s) (2 * s))
theorem mocodez_2406 (b s : Nat) : xall (fun _ a => xBm a) 1 b s codez_2406 := And.intro mobz_873 mobz_no
theorem mocodez_2407 (b s : Nat) : xall (fun _ a => xBm a) 1 b s codez_2407 := And.intro mobz_1897 mobz_no
theorem mocodez_2408 (b s : Nat) : xall (fun _ a => xBm a) 2 b s codez_2408 := And.intro (mocodez_2406 b (2 * s)) (mocodez_2407 (b + s) (2 * s))
theorem mocodez_2409 (b s : Nat) : xall (fun _ a => xBm a) 3 b s codez_2409 := And.intro (mocodez_2405 b (2 * s)) (mocodez_2408 (b + s) (2 * s))
theorem mocodez_2410 (b s : Nat) : xall (fun _ a => xBm a) 4 b s codez_2410 := And.intro (mocodez_2402 b (2 * s)) (mocodez_2409 (b + s) (2 * s))
theorem mocodez_2411 (b s : Nat) : xall (fun _ a => xBm a) 1 b s codez_2411 := And.intro mobz_233 mobz_2281
theorem mocodez_2412 (b s : Nat) : xall (fun _ a => xBm a) 1 b s codez_2412 := And.intro mobz_1257 mobz_no
theorem mocodez_2413 (b s : Nat) : xall (fun _ a => xBm a) 2 b s codez_2413 := And.intro (mocodez_2411 b (2 * s)) (mocodez_2412 (b + s) (2 * s))
theorem mocodez_2414 (b s : Nat) : xall (fun _ a => xBm a) 1 b s codez_2414 := And.intro mobz_745 mobz_no
theorem mocodez_2415 (b s : Nat) : xall (fun _ a => xBm a) 1 b s codez_2415 := And.intro mobz_1769 mobz_no
theorem mocodez_2416 (b s : Nat) : xall (fun _ a => xBm a) 2 b s codez_2416 := And.intro (mocodez_2414 b (2 * s)) (mocodez_2415 (b + s) (2 * s))
theorem mocodez_2417 (b s : Nat) : xall (fun _ a => xBm a) 3 b s codez_2417 := And.intro (mocodez_2413 b (2 * s)) (mocodez_2416 (b + s) (2 * s))
theorem mocodez_2418 (b s : Nat) : xall (fun _ a => xBm a) 1 b s codez_2418 := And.intro mobz_489 mobz_2537
theorem mocodez_2419 (b s : Nat) : xall (fun _ a => xBm a) 1 b s codez_2419 := And.intro mobz_1513 mobz_no
theorem mocodez_2420 (b s : Nat) : xall (fun _ a => xBm a) 2 b s codez_2420 := And.intro (mocodez_2418 b (2 * s)) (mocodez_2419 (b + s) (2 * s))
theorem mocodez_2421 (b s : Nat) : xall (fun _ a => xBm a) 1 b s codez_2421 := And.intro mobz_1001 mobz_no
theorem mocodez_2422 (b s : Nat) : xall (fun _ a => xBm a) 1 b s codez_2422 := And.intro mobz_2025 mobz_no
theorem mocodez_2423 (b s : Nat) : xall (fun _ a => xBm a) 2 b s codez_2423 := And.intro (mocodez_2421 b (2 * s)) (mocodez_2422 (b + s) (2 * s))
theorem mocodez_2424 (b s : Nat) : xall (fun _ a => xBm a) 3 b s codez_2424 := And.intro (mocodez_2420 b (2 * s)) (mocodez_2423 (b + s) (2 * s))
theorem mocodez_2425 (b s : Nat) : xall (fun _ a => xBm a) 4 b s codez_2425 := And.intro (mocodez_2417 b (2 * s)) (mocodez_2424 (b + s) (2 * s))
theorem mocodez_2426 (b s : Nat) : xall (fun _ a => xBm a) 5 b s codez_2426 := And.intro (mocodez_2410 b (2 * s)) (mocodez_2425 (b + s) (2 * s))
theorem mocodez_2427 (b s : Nat) : xall (fun _ a => xBm a) 6 b s codez_2427 := And.intro (mocodez_2395 b (2 * s)) (mocodez_2426 (b + s) (2 * s))
theorem mocodez_2428 (b s : Nat) : xall (fun _ a => xBm a) 7 b s codez_2428 := And.intro (mocodez_2364 b (2 * s)) (mocodez_2427 (b + s) (2 * s))
theorem mocodez_2429 (b s : Nat) : xall (fun _ a => xBm a) 1 b s codez_2429 := And.intro mobz_25 mobz_2073
theorem mocodez_2430 (b s : Nat) : xall (fun _ a => xBm a) 1 b s codez_2430 := And.intro mobz_1049 mobz_no
theorem mocodez_2431 (b s : Nat) : xall (fun _ a => xBm a) 2 b s codez_2431 := And.intro (mocodez_2429 b (2 * s)) (mocodez_2430 (b + s) (2 * s))
theorem mocodez_2432 (b s : Nat) : xall (fun _ a => xBm a) 1 b s codez_2432 := And.intro mobz_537 mobz_no
theorem mocodez_2433 (b s : Nat) : xall (fun _ a => xBm a) 1 b s codez_2433 := And.intro mobz_1561 mobz_no
theorem mocodez_2434 (b s : Nat) : xall (fun _ a => xBm a) 2 b s codez_2434 := And.intro (mocodez_2432 b (2 * s)) (mocodez_2433 (b + s) (2 * s))
theorem mocodez_2435 (b s : Nat) : xall (fun _ a => xBm a) 3 b s codez_2435 := And.intro (mocodez_2431 b (2 * s)) (mocodez_2434 (b + s) (2 * s))
theorem mocodez_2436 (b s : Nat) : xall (fun _ a => xBm a) 1 b s codez_2436 := And.intro mobz_281 mobz_2329
theorem mocodez_2437 (b s : Nat) : xall (fun _ a => xBm a) 1 b s codez_2437 := And.intro mobz_1305 mobz_no
theorem mocodez_2438 (b s : Nat) : xall (fun _ a => xBm a) 2 b s codez_2438 := And.intro (mocodez_2436 b (2 * s)) (mocodez_2437 (b + s) (2 * s))
theorem mocodez_2439 (b s : Nat) : xall (fun _ a => xBm a) 1 b s codez_2439 := And.intro mobz_793 mobz_no
theorem mocodez_2440 (b s : Nat) : xall (fun _ a => xBm a) 1 b s codez_2440 := And.intro mobz_1817 mobz_no
theorem mocodez_2441 (b s : Nat) : xall (fun _ a => xBm a) 2 b s codez_2441 := And.intro (mocodez_2439 b (2 * s)) (mocodez_2440 (b + s) (2 * s))
theorem mocodez_2442 (b s : Nat) : xall (fun _ a => xBm a) 3 b s codez_2442 := And.intro (mocodez_2438 b (2 * s)) (mocodez_2441 (b + s) (2 * s))
theorem mocodez_2443 (b s : Nat) : xall (fun _ a => xBm a) 4 b s codez_2443 := And.intro (mocodez_2435 b (2 * s)) (mocodez_2442 (b + s) (2 * s))
theorem mocodez_2444 (b s : Nat) : xall (fun _ a => xBm a) 1 b s codez_2444 := And.intro mobz_153 mobz_2201
theorem mocodez_2445 (b s : Nat) : xall (fun _ a => xBm a) 1 b s codez_2445 := And.intro mobz_1177 mobz_no
theorem mocodez_2446 (b s : Nat) : xall (fun _ a => xBm a) 2 b s codez_2446 := And.intro (mocodez_2444 b (2 * s)) (mocodez_2445 (b + s) (2 * s))
theorem mocodez_2447 (b s : Nat) : xall (fun _ a => xBm a) 1 b s codez_2447 := And.intro mobz_665 mobz_no
theorem mocodez_2448 (b s : Nat) : xall (fun _ a => xBm a) 1 b s codez_2448 := And.intro mobz_1689 mobz_no
theorem mocodez_2449 (b s : Nat) : xall (fun _ a => xBm a) 2 b s codez_2449 := And.intro (mocodez_2447 b (2 * s)) (mocodez_2448 (b + s) (2 * s))
theorem mocodez_2450 (b s : Nat) : xall (fun _ a => xBm a) 3 b s codez_2450 := And.intro (mocodez_2446 b (2 * s)) (mocodez_2449 (b + s) (2 * s))
theorem mocodez_2451 (b s : Nat) : xall (fun _ a => xBm a) 1 b s codez_2451 := And.intro mobz_409 mobz_2457
theorem mocodez_2452 (b s : Nat) : xall (fun _ a => xBm a) 1 b s codez_2452 := And.intro mobz_1433 mobz_no
theorem mocodez_2453 (b s : Nat) : xall (fun _ a => xBm a) 2 b s codez_2453 := And.intro (mocodez_2451 b (2 * s)) (mocodez_2452 (b + s) (2 * s))
theorem mocodez_2454 (b s : Nat) : xall (fun _ a => xBm a) 1 b s codez_2454 := And.intro mobz_921 mobz_no
theorem mocodez_2455 (b s : Nat) : xall (fun _ a => xBm a) 1 b s codez_2455 := And.intro mobz_1945 mobz_no
theorem mocodez_2456 (b s : Nat) : xall (fun _ a => xBm a) 2 b s codez_2456 := And.intro (mocodez_2454 b (2 * s)) (mocodez_2455 (b + s) (2 * s))
theorem mocodez_2457 (b s : Nat) : xall (fun _ a => xBm a) 3 b s codez_2457 := And.intro (mocodez_2453 b (2 * s)) (mocodez_2456 (b + s) (2 * s))
theorem mocodez_2458 (b s : Nat) : xall (fun _ a => xBm a) 4 b s codez_2458 := And.intro (mocodez_2450 b (2 * s)) (mocodez_2457 (b + s) (2 * s))
theorem mocodez_2459 (b s : Nat) : xall (fun _ a => xBm a) 5 b s codez_2459 := And.intro (mocodez_2443 b (2 * s)) (mocodez_2458 (b + s) (2 * s))
theorem mocodez_2460 (b s : Nat) : xall (fun _ a => xBm a) 1 b s codez_2460 := And.intro mobz_89 mobz_2137
theorem mocodez_2461 (b s : Nat) : xall (fun _ a => xBm a) 1 b s codez_2461 := And.intro mobz_1113 mobz_no
theorem mocodez_2462 (b s : Nat) : xall (fun _ a => xBm a) 2 b s codez_2462 := And.intro (mocodez_2460 b (2 * s)) (mocodez_2461 (b + s) (2 * s))
theorem mocodez_2463 (b s : Nat) : xall (fun _ a => xBm a) 1 b s codez_2463 := And.intro mobz_601 mobz_no
theorem mocodez_2464 (b s : Nat) : xall (fun _ a => xBm a) 1 b s codez_2464 := And.intro mobz_1625 mobz_no
theorem mocodez_2465 (b s : Nat) : xall (fun _ a => xBm a) 2 b s codez_2465 := And.intro (mocodez_2463 b (2 * s)) (mocodez_2464 (b + s) (2 * s))
theorem mocodez_2466 (b s : Nat) : xall (fun _ a => xBm a) 3 b s codez_2466 := And.intro (mocodez_2462 b (2 * s)) (mocodez_2465 (b + s) (2 * s))
theorem mocodez_2467 (b s : Nat) : xall (fun _ a => xBm a) 1 b s codez_2467 := And.intro mobz_345 mobz_2393
theorem mocodez_2468 (b s : Nat) : xall (fun _ a => xBm a) 1 b s codez_2468 := And.intro mobz_1369 mobz_no
theorem mocodez_2469 (b s : Nat) : xall (fun _ a => xBm a) 2 b s codez_2469 := And.intro (mocodez_2467 b (2 * s)) (mocodez_2468 (b + s) (2 * s))
theorem mocodez_2470 (b s : Nat) : xall (fun _ a => xBm a) 1 b s codez_2470 := And.intro mobz_857 mobz_no
theorem mocodez_2471 (b s : Nat) : xall (fun _ a => xBm a) 1 b s codez_2471 := And.intro mobz_1881 mobz_no
theorem mocodez_2472 (b s : Nat) : xall (fun _ a => xBm a) 2 b s codez_2472 := And.intro (mocodez_2470 b (2 * s)) (mocodez_2471 (b + s) (2 * s))
theorem mocodez_2473 (b s : Nat) : xall (fun _ a => xBm a) 3 b s codez_2473 := And.intro (mocodez_2469 b (2 * s)) (mocodez_2472 (b + s) (2 * s))
theorem mocodez_2474 (b s : Nat) : xall (fun _ a => xBm a) 4 b s codez_2474 := And.intro (mocodez_2466 b (2 * s)) (mocodez_2473 (b + s) (2 * s))
theorem mocodez_2475 (b s : Nat) : xall (fun _ a => xBm a) 1 b s codez_2475 := And.intro mobz_217 mobz_2265
theorem mocodez_2476 (b s : Nat) : xall (fun _ a => xBm a) 1 b s codez_2476 := And.intro mobz_1241 mobz_no
theorem mocodez_2477 (b s : Nat) : xall (fun _ a => xBm a) 2 b s codez_2477 := And.intro (mocodez_2475 b (2 * s)) (mocodez_2476 (b + s) (2 * s))
theorem mocodez_2478 (b s : Nat) : xall (fun _ a => xBm a) 1 b s codez_2478 := And.intro mobz_729 mobz_no
theorem mocodez_2479 (b s : Nat) : xall (fun _ a => xBm a) 1 b s codez_2479 := And.intro mobz_1753 mobz_no
theorem mocodez_2480 (b s : Nat) : xall (fun _ a => xBm a) 2 b s codez_2480 := And.intro (mocodez_2478 b (2 * s)) (mocodez_2479 (b + s) (2 * s))
theorem mocodez_2481 (b s : Nat) : xall (fun _ a => xBm a) 3 b s codez_2481 := And.intro (mocodez_2477 b (2 * s)) (mocodez_2480 (b + s) (2 * s))
theorem mocodez_2482 (b s : Nat) : xall (fun _ a => xBm a) 1 b s codez_2482 := And.intro mobz_473 mobz_2521
theorem mocodez_2483 (b s : Nat) : xall (fun _ a => xBm a) 1 b s codez_2483 := And.intro mobz_1497 mobz_no
theorem mocodez_2484 (b s : Nat) : xall (fun _ a => xBm a) 2 b s codez_2484 := And.intro (mocodez_2482 b (2 * s)) (mocodez_2483 (b + s) (2 * s))
theorem mocodez_2485 (b s : Nat) : xall (fun _ a => xBm a) 1 b s codez_2485 := And.intro mobz_985 mobz_no
theorem mocodez_2486 (b s : Nat) : xall (fun _ a => xBm a) 1 b s codez_2486 := And.intro mobz_2009 mobz_no
theorem mocodez_2487 (b s : Nat) : xall (fun _ a => xBm a) 2 b s codez_2487 := And.intro (mocodez_2485 b (2 * s)) (mocodez_2486 (b + s) (2 * s))
theorem mocodez_2488 (b s : Nat) : xall (fun _ a => xBm a) 3 b s codez_2488 := And.intro (mocodez_2484 b (2 * s)) (mocodez_2487 (b + s) (2 * s))
theorem mocodez_2489 (b s : Nat) : xall (fun _ a => xBm a) 4 b s codez_2489 := And.intro (mocodez_2481 b (2 * s)) (mocodez_2488 (b + s) (2 * s))
theorem mocodez_2490 (b s : Nat) : xall (fun _ a => xBm a) 5 b s codez_2490 := And.intro (mocodez_2474 b (2 * s)) (mocodez_2489 (b + s) (2 * s))
theorem mocodez_2491 (b s : Nat) : xall (fun _ a => xBm a) 6 b s codez_2491 := And.intro (mocodez_2459 b (2 * s)) (mocodez_2490 (b + s) (2 * s))
theorem mocodez_2492 (b s : Nat) : xall (fun _ a => xBm a) 1 b s codez_2492 := And.intro mobz_57 mobz_2105
theorem mocodez_2493 (b s : Nat) : xall (fun _ a => xBm a) 1 b s codez_2493 := And.intro mobz_1081 mobz_no
theorem mocodez_2494 (b s : Nat) : xall (fun _ a => xBm a) 2 b s codez_2494 := And.intro (mocodez_2492 b (2 * s)) (mocodez_2493 (b + s) (2 * s))
theorem mocodez_2495 (b s : Nat) : xall (fun _ a => xBm a) 1 b s codez_2495 := And.intro mobz_569 mobz_no
theorem mocodez_2496 (b s : Nat) : xall (fun _ a => xBm a) 1 b s codez_2496 := And.intro mobz_1593 mobz_no
theorem mocodez_2497 (b s : Nat) : xall (fun _ a => xBm a) 2 b s codez_2497 := And.intro (mocodez_2495 b (2 * s)) (mocodez_2496 (b + s) (2 * s))
theorem mocodez_2498 (b s : Nat) : xall (fun _ a => xBm a) 3 b s codez_2498 := And.intro (mocodez_2494 b (2 * s)) (mocodez_2497 (b + s) (2 * s))
theorem mocodez_2499 (b s : Nat) : xall (fun _ a => xBm a) 1 b s codez_2499 := And.intro mobz_313 mobz_2361
theorem mocodez_2500 (b s : Nat) : xall (fun _ a => xBm a) 1 b s codez_2500 := And.intro mobz_1337 mobz_no
theorem mocodez_2501 (b s : Nat) : xall (fun _ a => xBm a) 2 b s codez_2501 := And.intro (mocodez_2499 b (2 * s)) (mocodez_2500 (b + s) (2 * s))
theorem mocodez_2502 (b s : Nat) : xall (fun _ a => xBm a) 1 b s codez_2502 := And.intro mobz_825 mobz_no
theorem mocodez_2503 (b s : Nat) : xall (fun _ a => xBm a) 1 b s codez_2503 := And.intro mobz_1849 mobz_no
theorem mocodez_2504 (b s : Nat) : xall (fun _ a => xBm a) 2 b s codez_2504 := And.intro (mocodez_2502 b (2 * s)) (mocodez_2503 (b + s) (2 * s))
theorem mocodez_2505 (b s : Nat) : xall (fun _ a => xBm a) 3 b s codez_2505 := And.intro (mocodez_2501 b (2 * s)) (mocodez_2504 (b + s) (2 * s))
theorem mocodez_2506 (b s : Nat) : xall (fun _ a => xBm a) 4 b s codez_2506 := And.intro (mocodez_2498 b (2 * s)) (mocodez_2505 (b + s) (2 * s))
theorem mocodez_2507 (b s : Nat) : xall (fun _ a => xBm a) 1 b s codez_2507 := And.intro mobz_185 mobz_2233
theorem mocodez_2508 (b s : Nat) : xall (fun _ a => xBm a) 1 b s codez_2508 := And.intro mobz_1209 mobz_no
theorem mocodez_2509 (b s : Nat) : xall (fun _ a => xBm a) 2 b s codez_2509 := And.intro (mocodez_2507 b (2 * s)) (mocodez_2508 (b + s) (2 * s))
theorem mocodez_2510 (b s : Nat) : xall (fun _ a => xBm a) 1 b s codez_2510 := And.intro mobz_697 mobz_no
theorem mocodez_2511 (b s : Nat) : xall (fun _ a => xBm a) 1 b s codez_2511 := And.intro mobz_1721 mobz_no
theorem mocodez_2512 (b s : Nat) : xall (fun _ a => xBm a) 2 b s codez_2512 := And.intro (mocodez_2510 b (2 * s)) (mocodez_2511 (b + s) (2 * s))
theorem mocodez_2513 (b s : Nat) : xall (fun _ a => xBm a) 3 b s codez_2513 := And.intro (mocodez_2509 b (2 * s)) (mocodez_2512 (b + s) (2 * s))
theorem mocodez_2514 (b s : Nat) : xall (fun _ a => xBm a) 1 b s codez_2514 := And.intro mobz_441 mobz_2489
theorem mocodez_2515 (b s : Nat) : xall (fun _ a => xBm a) 1 b s codez_2515 := And.intro mobz_1465 mobz_no
theorem mocodez_2516 (b s : Nat) : xall (fun _ a => xBm a) 2 b s codez_2516 := And.intro (mocodez_2514 b (2 * s)) (mocodez_2515 (b + s) (2 * s))
theorem mocodez_2517 (b s : Nat) : xall (fun _ a => xBm a) 1 b s codez_2517 := And.intro mobz_953 mobz_no
theorem mocodez_2518 (b s : Nat) : xall (fun _ a => xBm a) 1 b s codez_2518 := And.intro mobz_1977 mobz_no
theorem mocodez_2519 (b s : Nat) : xall (fun _ a => xBm a) 2 b s codez_2519 := And.intro (mocodez_2517 b (2 * s)) (mocodez_2518 (b + s) (2 * s))
theorem mocodez_2520 (b s : Nat) : xall (fun _ a => xBm a) 3 b s codez_2520 := And.intro (mocodez_2516 b (2 * s)) (mocodez_2519 (b + s) (2 * s))
theorem mocodez_2521 (b s : Nat) : xall (fun _ a => xBm a) 4 b s codez_2521 := And.intro (mocodez_2513 b (2 * s)) (mocodez_2520 (b + s) (2 * s))
theorem mocodez_2522 (b s : Nat) : xall (fun _ a => xBm a) 5 b s codez_2522 := And.intro (mocodez_2506 b (2 * s)) (mocodez_2521 (b + s) (2 * s))
theorem mocodez_2523 (b s : Nat) : xall (fun _ a => xBm a) 1 b s codez_2523 := And.intro mobz_121 mobz_2169
theorem mocodez_2524 (b s : Nat) : xall (fun _ a => xBm a) 1 b s codez_2524 := And.intro mobz_1145 mobz_no
theorem mocodez_2525 (b s : Nat) : xall (fun _ a => xBm a) 2 b s codez_2525 := And.intro (mocodez_2523 b (2 * s)) (mocodez_2524 (b + s) (2 * s))
theorem mocodez_2526 (b s : Nat) : xall (fun _ a => xBm a) 1 b s codez_2526 := And.intro mobz_633 mobz_no
theorem mocodez_2527 (b s : Nat) : xall (fun _ a => xBm a) 1 b s codez_2527 := And.intro mobz_1657 mobz_no
theorem mocodez_2528 (b s : Nat) : xall (fun _ a => xBm a) 2 b s codez_2528 := And.intro (mocodez_2526 b (2 * s)) (mocodez_2527 (b + s) (2 * s))
theorem mocodez_2529 (b s : Nat) : xall (fun _ a => xBm a) 3 b s codez_2529 := And.intro (mocodez_2525 b (2 * s)) (mocodez_2528 (b + s) (2 * s))
theorem mocodez_2530 (b s : Nat) : xall (fun _ a => xBm a) 1 b s codez_2530 := And.intro mobz_377 mobz_2425
theorem mocodez_2531 (b s : Nat) : xall (fun _ a => xBm a) 1 b s codez_2531 := And.intro mobz_1401 mobz_no
theorem mocodez_2532 (b s : Nat) : xall (fun _ a => xBm a) 2 b s codez_2532 := And.intro (mocodez_2530 b (2 * s)) (mocodez_2531 (b + s) (2 * s))
theorem mocodez_2533 (b s : Nat) : xall (fun _ a => xBm a) 1 b s codez_2533 := And.intro mobz_889 mobz_no
theorem mocodez_2534 (b s : Nat) : xall (fun _ a => xBm a) 1 b s codez_2534 := And.intro mobz_1913 mobz_no
theorem mocodez_2535 (b s : Nat) : xall (fun _ a => xBm a) 2 b s codez_2535 := And.intro (mocodez_2533 b (2 * s)) (mocodez_2534 (b + s) (2 * s))
theorem mocodez_2536 (b s : Nat) : xall (fun _ a => xBm a) 3 b s codez_2536 := And.intro (mocodez_2532 b (2 * s)) (mocodez_2535 (b + s) (2 * s))
theorem mocodez_2537 (b s : Nat) : xall (fun _ a => xBm a) 4 b s codez_2537 := And.intro (mocodez_2529 b (2 * s)) (mocodez_2536 (b + s) (2 * s))
theorem mocodez_2538 (b s : Nat) : xall (fun _ a => xBm a) 1 b s codez_2538 := And.intro mobz_249 mobz_2297
theorem mocodez_2539 (b s : Nat) : xall (fun _ a => xBm a) 1 b s codez_2539 := And.intro mobz_1273 mobz_no
theorem mocodez_2540 (b s : Nat) : xall (fun _ a => xBm a) 2 b s codez_2540 := And.intro (mocodez_2538 b (2 * s)) (mocodez_2539 (b + s) (2 * s))
theorem mocodez_2541 (b s : Nat) : xall (fun _ a => xBm a) 1 b s codez_2541 := And.intro mobz_761 mobz_no
theorem mocodez_2542 (b s : Nat) : xall (fun _ a => xBm a) 1 b s codez_2542 := And.intro mobz_1785 mobz_no
theorem mocodez_2543 (b s : Nat) : xall (fun _ a => xBm a) 2 b s codez_2543 := And.intro (mocodez_2541 b (2 * s)) (mocodez_2542 (b + s) (2 * s))
theorem mocodez_2544 (b s : Nat) : xall (fun _ a => xBm a) 3 b s codez_2544 := And.intro (mocodez_2540 b (2 * s)) (mocodez_2543 (b + s) (2 * s))
theorem mocodez_2545 (b s : Nat) : xall (fun _ a => xBm a) 1 b s codez_2545 := And.intro mobz_505 mobz_no
theorem mocodez_2546 (b s : Nat) : xall (fun _ a => xBm a) 1 b s codez_2546 := And.intro mobz_1529 mobz_no
theorem mocodez_2547 (b s : Nat) : xall (fun _ a => xBm a) 2 b s codez_2547 := And.intro (mocodez_2545 b (2 * s)) (mocodez_2546 (b + s) (2 * s))
theorem mocodez_2548 (b s : Nat) : xall (fun _ a => xBm a) 1 b s codez_2548 := And.intro mobz_1017 mobz_no
theorem mocodez_2549 (b s : Nat) : xall (fun _ a => xBm a) 1 b s codez_2549 := And.intro mobz_2041 mobz_no
theorem mocodez_2550 (b s : Nat) : xall (fun _ a => xBm a) 2 b s codez_2550 := And.intro (mocodez_2548 b (2 * s)) (mocodez_2549 (b + s) (2 * s))
theorem mocodez_2551 (b s : Nat) : xall (fun _ a => xBm a) 3 b s codez_2551 := And.intro (mocodez_2547 b (2 * s)) (mocodez_2550 (b + s) (2 * s))
theorem mocodez_2552 (b s : Nat) : xall (fun _ a => xBm a) 4 b s codez_2552 := And.intro (mocodez_2544 b (2 * s)) (mocodez_2551 (b + s) (2 * s))
theorem mocodez_2553 (b s : Nat) : xall (fun _ a => xBm a) 5 b s codez_2553 := And.intro (mocodez_2537 b (2 * s)) (mocodez_2552 (b + s) (2 * s))
theorem mocodez_2554 (b s : Nat) : xall (fun _ a => xBm a) 6 b s codez_2554 := And.intro (mocodez_2522 b (2 * s)) (mocodez_2553 (b + s) (2 * s))
theorem mocodez_2555 (b s : Nat) : xall (fun _ a => xBm a) 7 b s codez_2555 := And.intro (mocodez_2491 b (2 * s)) (mocodez_2554 (b + s) (2 * s))
theorem mocodez_2556 (b s : Nat) : xall (fun _ a => xBm a) 8 b s codez_2556 := And.intro (mocodez_2428 b (2 * s)) (mocodez_2555 (b + s) (2 * s))
theorem mocodez_2557 (b s : Nat) : xall (fun _ a => xBm a) 9 b s codez_2557 := And.intro (mocodez_2301 b (2 * s)) (mocodez_2556 (b + s) (2 * s))
theorem mocodez_2558 (b s : Nat) : xall (fun _ a => xBm a) 1 b s codez_2558 := And.intro mobz_5 mobz_2053
theorem mocodez_2559 (b s : Nat) : xall (fun _ a => xBm a) 1 b s codez_2559 := And.intro mobz_1029 mobz_no
theorem mocodez_2560 (b s : Nat) : xall (fun _ a => xBm a) 2 b s codez_2560 := And.intro (mocodez_2558 b (2 * s)) (mocodez_2559 (b + s) (2 * s))
theorem mocodez_2561 (b s : Nat) : xall (fun _ a => xBm a) 1 b s codez_2561 := And.intro mobz_517 mobz_no
theorem mocodez_2562 (b s : Nat) : xall (fun _ a => xBm a) 1 b s codez_2562 := And.intro mobz_1541 mobz_no
theorem mocodez_2563 (b s : Nat) : xall (fun _ a => xBm a) 2 b s codez_2563 := And.intro (mocodez_2561 b (2 * s)) (mocodez_2562 (b + s) (2 * s))
theorem mocodez_2564 (b s : Nat) : xall (fun _ a => xBm a) 3 b s codez_2564 := And.intro (mocodez_2560 b (2 * s)) (mocodez_2563 (b + s) (2 * s))
theorem mocodez_2565 (b s : Nat) : xall (fun _ a => xBm a) 1 b s codez_2565 := And.intro mobz_261 mobz_2309
theorem mocodez_2566 (b s : Nat) : xall (fun _ a => xBm a) 1 b s codez_2566 := And.intro mobz_1285 mobz_no
theorem mocodez_2567 (b s : Nat) : xall (fun _ a => xBm a) 2 b s codez_2567 := And.intro (mocodez_2565 b (2 * s)) (mocodez_2566 (b + s) (2 * s))
theorem mocodez_2568 (b s : Nat) : xall (fun _ a => xBm a) 1 b s codez_2568 := And.intro mobz_773 mobz_no
theorem mocodez_2569 (b s : Nat) : xall (fun _ a => xBm a) 1 b s codez_2569 := And.intro mobz_1797 mobz_no
theorem mocodez_2570 (b s : Nat) : xall (fun _ a => xBm a) 2 b s codez_2570 := And.intro (mocodez_2568 b (2 * s)) (mocodez_2569 (b + s) (2 * s))
theorem mocodez_2571 (b s : Nat) : xall (fun _ a => xBm a) 3 b s codez_2571 := And.intro (mocodez_2567 b (2 * s)) (mocodez_2570 (b + s) (2 * s))
theorem mocodez_2572 (b s : Nat) : xall (fun _ a => xBm a) 4 b s codez_2572 := And.intro (mocodez_2564 b (2 * s)) (mocodez_2571 (b + s) (2 * s))
theorem mocodez_2573 (b s : Nat) : xall (fun _ a => xBm a) 1 b s codez_2573 := And.intro mobz_133 mobz_2181
theorem mocodez_2574 (b s : Nat) : xall (fun _ a => xBm a) 1 b s codez_2574 := And.intro mobz_1157 mobz_no
theorem mocodez_2575 (b s : Nat) : xall (fun _ a => xBm a) 2 b s codez_2575 := And.intro (mocodez_2573 b (2 * s)) (mocodez_2574 (b + s) (2 * s))
theorem mocodez_2576 (b s : Nat) : xall (fun _ a => xBm a) 1 b s codez_2576 := And.intro mobz_645 mobz_no
theorem mocodez_2577 (b s : Nat) : xall (fun _ a => xBm a) 1 b s codez_2577 := And.intro mobz_1669 mobz_no
theorem mocodez_2578 (b s : Nat) : xall (fun _ a => xBm a) 2 b s codez_2578 := And.intro (mocodez_2576 b (2 * s)) (mocodez_2577 (b + s) (2 * s))
theorem mocodez_2579 (b s : Nat) : xall (fun _ a => xBm a) 3 b s codez_2579 := And.intro (mocodez_2575 b (2 * s)) (mocodez_2578 (b + s) (2 * s))
theorem mocodez_2580 (b s : Nat) : xall (fun _ a => xBm a) 1 b s codez_2580 := And.intro mobz_389 mobz_2437
theorem mocodez_2581 (b s : Nat) : xall (fun _ a => xBm a) 1 b s codez_2581 := And.intro mobz_1413 mobz_no
theorem mocodez_2582 (b s : Nat) : xall (fun _ a => xBm a) 2 b s codez_2582 := And.intro (mocodez_2580 b (2 * s)) (mocodez_2581 (b + s) (2 * s))
theorem mocodez_2583 (b s : Nat) : xall (fun _ a => xBm a) 1 b s codez_2583 := And.intro mobz_901 mobz_no
theorem mocodez_2584 (b s : Nat) : xall (fun _ a => xBm a) 1 b s codez_2584 := And.intro mobz_1925 mobz_no
theorem mocodez_2585 (b s : Nat) : xall (fun _ a => xBm a) 2 b s codez_2585 := And.intro (mocodez_2583 b (2 * s)) (mocodez_2584 (b + s) (2 * s))
theorem mocodez_2586 (b s : Nat) : xall (fun _ a => xBm a) 3 b s codez_2586 := And.intro (mocodez_2582 b (2 * s)) (mocodez_2585 (b + s) (2 * s))
theorem mocodez_2587 (b s : Nat) : xall (fun _ a => xBm a) 4 b s codez_2587 := And.intro (mocodez_2579 b (2 * s)) (mocodez_2586 (b + s) (2 * s))
theorem mocodez_2588 (b s : Nat) : xall (fun _ a => xBm a) 5 b s codez_2588 := And.intro (mocodez_2572 b (2 * s)) (mocodez_2587 (b + s) (2 * s))
theorem mocodez_2589 (b s : Nat) : xall (fun _ a => xBm a) 1 b s codez_2589 := And.intro mobz_69 mobz_2117
theorem mocodez_2590 (b s : Nat) : xall (fun _ a => xBm a) 1 b s codez_2590 := And.intro mobz_1093 mobz_no
theorem mocodez_2591 (b s : Nat) : xall (fun _ a => xBm a) 2 b s codez_2591 := And.intro (mocodez_2589 b (2 * s)) (mocodez_2590 (b + s) (2 * s))
theorem mocodez_2592 (b s : Nat) : xall (fun _ a => xBm a) 1 b s codez_2592 := And.intro mobz_581 mobz_no
theorem mocodez_2593 (b s : Nat) : xall (fun _ a => xBm a) 1 b s codez_2593 := And.intro mobz_1605 mobz_no
theorem mocodez_2594 (b s : Nat) : xall (fun _ a => xBm a) 2 b s codez_2594 := And.intro (mocodez_2592 b (2 * s)) (mocodez_2593 (b + s) (2 * s))
theorem mocodez_2595 (b s : Nat) : xall (fun _ a => xBm a) 3 b s codez_2595 := And.intro (mocodez_2591 b (2 * s)) (mocodez_2594 (b + s) (2 * s))
theorem mocodez_2596 (b s : Nat) : xall (fun _ a => xBm a) 1 b s codez_2596 := And.intro mobz_325 mobz_2373
theorem mocodez_2597 (b s : Nat) : xall (fun _ a => xBm a) 1 b s codez_2597 := And.intro mobz_1349 mobz_no
theorem mocodez_2598 (b s : Nat) : xall (fun _ a => xBm a) 2 b s codez_2598 := And.intro (mocodez_2596 b (2 * s)) (mocodez_2597 (b + s) (2 * s))
theorem mocodez_2599 (b s : Nat) : xall (fun _ a => xBm a) 1 b s codez_2599 := And.intro mobz_837 mobz_no
theorem mocodez_2600 (b s : Nat) : xall (fun _ a => xBm a) 1 b s codez_2600 := And.intro mobz_1861 mobz_no
theorem mocodez_2601 (b s : Nat) : xall (fun _ a => xBm a) 2 b s codez_2601 := And.intro (mocodez_2599 b (2 * s)) (mocodez_2600 (b + s) (2 * s))
theorem mocodez_2602 (b s : Nat) : xall (fun _ a => xBm a) 3 b s codez_2602 := And.intro (mocodez_2598 b (2 * s)) (mocodez_2601 (b + s) (2 * s))
theorem mocodez_2603 (b s : Nat) : xall (fun _ a => xBm a) 4 b s codez_2603 := And.intro (mocodez_2595 b (2 * s)) (mocodez_2602 (b + s) (2 * s))
theorem mocodez_2604 (b s : Nat) : xall (fun _ a => xBm a) 1 b s codez_2604 := And.intro mobz_197 mobz_2245
theorem mocodez_2605 (b s : Nat) : xall (fun _ a => xBm a) 1 b s codez_2605 := And.intro mobz_1221 mobz_no
theorem mocodez_2606 (b s : Nat) : xall (fun _ a => xBm a) 2 b s codez_2606 := And.intro (mocodez_2604 b (2 * s)) (mocodez_2605 (b + s) (2 * s))
theorem mocodez_2607 (b s : Nat) : xall (fun _ a => xBm a) 1 b s codez_2607 := And.intro mobz_709 mobz_no
theorem mocodez_2608 (b s : Nat) : xall (fun _ a => xBm a) 1 b s codez_2608 := And.intro mobz_1733 mobz_no
theorem mocodez_2609 (b s : Nat) : xall (fun _ a => xBm a) 2 b s codez_2609 := And.intro (mocodez_2607 b (2 * s)) (mocodez_2608 (b + s) (2 * s))
theorem mocodez_2610 (b s : Nat) : xall (fun _ a => xBm a) 3 b s codez_2610 := And.intro (mocodez_2606 b (2 * s)) (mocodez_2609 (b + s) (2 * s))
theorem mocodez_2611 (b s : Nat) : xall (fun _ a => xBm a) 1 b s codez_2611 := And.intro mobz_453 mobz_2501
theorem mocodez_2612 (b s : Nat) : xall (fun _ a => xBm a) 1 b s codez_2612 := And.intro mobz_1477 mobz_no
theorem mocodez_2613 (b s : Nat) : xall (fun _ a => xBm a) 2 b s codez_2613 := And.intro (mocodez_2611 b (2 * s)) (mocodez_2612 (b + s) (2 * s))
theorem mocodez_2614 (b s : Nat) : xall (fun _ a => xBm a) 1 b s codez_2614 := And.intro mobz_965 mobz_no
theorem mocodez_2615 (b s : Nat) : xall (fun _ a => xBm a) 1 b s codez_2615 := And.intro mobz_1989 mobz_no
theorem mocodez_2616 (b s : Nat) : xall (fun _ a => xBm a) 2 b s codez_2616 := And.intro (mocodez_2614 b (2 * s)) (mocodez_2615 (b + s) (2 * s))
theorem mocodez_2617 (b s : Nat) : xall (fun _ a => xBm a) 3 b s codez_2617 := And.intro (mocodez_2613 b (2 * s)) (mocodez_2616 (b + s) (2 * s))
theorem mocodez_2618 (b s : Nat) : xall (fun _ a => xBm a) 4 b s codez_2618 := And.intro (mocodez_2610 b (2 * s)) (mocodez_2617 (b + s) (2 * s))
theorem mocodez_2619 (b s : Nat) : xall (fun _ a => xBm a) 5 b s codez_2619 := And.intro (mocodez_2603 b (2 * s)) (mocodez_2618 (b + s) (2 * s))
theorem mocodez_2620 (b s : Nat) : xall (fun _ a => xBm a) 6 b s codez_2620 := And.intro (mocodez_2588 b (2 * s)) (mocodez_2619 (b + s) (2 * s))
theorem mocodez_2621 (b s : Nat) : xall (fun _ a => xBm a) 1 b s codez_2621 := And.intro mobz_37 mobz_2085
theorem mocodez_2622 (b s : Nat) : xall (fun _ a => xBm a) 1 b s codez_2622 := And.intro mobz_1061 mobz_no
theorem mocodez_2623 (b s : Nat) : xall (fun _ a => xBm a) 2 b s codez_2623 := And.intro (mocodez_2621 b (2 * s)) (mocodez_2622 (b + s) (2 * s))
theorem mocodez_2624 (b s : Nat) : xall (fun _ a => xBm a) 1 b s codez_2624 := And.intro mobz_549 mobz_no
theorem mocodez_2625 (b s : Nat) : xall (fun _ a => xBm a) 1 b s codez_2625 := And.intro mobz_1573 mobz_no
theorem mocodez_2626 (b s : Nat) : xall (fun _ a => xBm a) 2 b s codez_2626 := And.intro (mocodez_2624 b (2 * s)) (mocodez_2625 (b + s) (2 * s))
theorem mocodez_2627 (b s : Nat) : xall (fun _ a => xBm a) 3 b s codez_2627 := And.intro (mocodez_2623 b (2 * s)) (mocodez_2626 (b + s) (2 * s))
theorem mocodez_2628 (b s : Nat) : xall (fun _ a => xBm a) 1 b s codez_2628 := And.intro mobz_293 mobz_2341
theorem mocodez_2629 (b s : Nat) : xall (fun _ a => xBm a) 1 b s codez_2629 := And.intro mobz_1317 mobz_no
theorem mocodez_2630 (b s : Nat) : xall (fun _ a => xBm a) 2 b s codez_2630 := And.intro (mocodez_2628 b (2 * s)) (mocodez_2629 (b + s) (2 * s))
theorem mocodez_2631 (b s : Nat) : xall (fun _ a => xBm a) 1 b s codez_2631 := And.intro mobz_805 mobz_no
theorem mocodez_2632 (b s : Nat) : xall (fun _ a => xBm a) 1 b s codez_2632 := And.intro mobz_1829 mobz_no
theorem mocodez_2633 (b s : Nat) : xall (fun _ a => xBm a) 2 b s codez_2633 := And.intro (mocodez_2631 b (2 * s)) (mocodez_2632 (b + s) (2 * s))
theorem mocodez_2634 (b s : Nat) : xall (fun _ a => xBm a) 3 b s codez_2634 := And.intro (mocodez_2630 b (2 * s)) (mocodez_2633 (b + s) (2 * s))
theorem mocodez_2635 (b s : Nat) : xall (fun _ a => xBm a) 4 b s codez_2635 := And.intro (mocodez_2627 b (2 * s)) (mocodez_2634 (b + s) (2 * s))
theorem mocodez_2636 (b s : Nat) : xall (fun _ a => xBm a) 1 b s codez_2636 := And.intro mobz_165 mobz_2213
theorem mocodez_2637 (b s : Nat) : xall (fun _ a => xBm a) 1 b s codez_2637 := And.intro mobz_1189 mobz_no
theorem mocodez_2638 (b s : Nat) : xall (fun _ a => xBm a) 2 b s codez_2638 := And.intro (mocodez_2636 b (2 * s)) (mocodez_2637 (b + s) (2 * s))
theorem mocodez_2639 (b s : Nat) : xall (fun _ a => xBm a) 1 b s codez_2639 := And.intro mobz_677 mobz_no
theorem mocodez_2640 (b s : Nat) : xall (fun _ a => xBm a) 1 b s codez_2640 := And.intro mobz_1701 mobz_no
theorem mocodez_2641 (b s : Nat) : xall (fun _ a => xBm a) 2 b s codez_2641 := And.intro (mocodez_2639 b (2 * s)) (mocodez_2640 (b + s) (2 * s))
theorem mocodez_2642 (b s : Nat) : xall (fun _ a => xBm a) 3 b s codez_2642 := And.intro (mocodez_2638 b (2 * s)) (mocodez_2641 (b + s) (2 * s))
theorem mocodez_2643 (b s : Nat) : xall (fun _ a => xBm a) 1 b s codez_2643 := And.intro mobz_421 mobz_2469
theorem mocodez_2644 (b s : Nat) : xall (fun _ a => xBm a) 1 b s codez_2644 := And.intro mobz_1445 mobz_no
theorem mocodez_2645 (b s : Nat) : xall (fun _ a => xBm a) 2 b s codez_2645 := And.intro (mocodez_2643 b (2 * s)) (mocodez_2644 (b + s) (2 * s))
theorem mocodez_2646 (b s : Nat) : xall (fun _ a => xBm a) 1 b s codez_2646 := And.intro mobz_933 mobz_no
theorem mocodez_2647 (b s : Nat) : xall (fun _ a => xBm a) 1 b s codez_2647 := And.intro mobz_1957 mobz_no
theorem mocodez_2648 (b s : Nat) : xall (fun _ a => xBm a) 2 b s codez_2648 := And.intro (mocodez_2646 b (2 * s)) (mocodez_2647 (b + s) (2 * s))
theorem mocodez_2649 (b s : Nat) : xall (fun _ a => xBm a) 3 b s codez_2649 := And.intro (mocodez_2645 b (2 * s)) (mocodez_2648 (b + s) (2 * s))
theorem mocodez_2650 (b s : Nat) : xall (fun _ a => xBm a) 4 b s codez_2650 := And.intro (mocodez_2642 b (2 * s)) (mocodez_2649 (b + s) (2 * s))
theorem mocodez_2651 (b s : Nat) : xall (fun _ a => xBm a) 5 b s codez_2651 := And.intro (mocodez_2635 b (2 * s)) (mocodez_2650 (b + s) (2 * s))
theorem mocodez_2652 (b s : Nat) : xall (fun _ a => xBm a) 1 b s codez_2652 := And.intro mobz_101 mobz_2149
theorem mocodez_2653 (b s : Nat) : xall (fun _ a => xBm a) 1 b s codez_2653 := And.intro mobz_1125 mobz_no
theorem mocodez_2654 (b s : Nat) : xall (fun _ a => xBm a) 2 b s codez_2654 := And.intro (mocodez_2652 b (2 * s)) (mocodez_2653 (b + s) (2 * s))
theorem mocodez_2655 (b s : Nat) : xall (fun _ a => xBm a) 1 b s codez_2655 := And.intro mobz_613 mobz_no
theorem mocodez_2656 (b s : Nat) : xall (fun _ a => xBm a) 1 b s codez_2656 := And.intro mobz_1637 mobz_no
theorem mocodez_2657 (b s : Nat) : xall (fun _ a => xBm a) 2 b s codez_2657 := And.intro (mocodez_2655 b (2 * s)) (mocodez_2656 (b + s) (2 * s))
theorem mocodez_2658 (b s : Nat) : xall (fun _ a => xBm a) 3 b s codez_2658 := And.intro (mocodez_2654 b (2 * s)) (mocodez_2657 (b + s) (2 * s))
theorem mocodez_2659 (b s : Nat) : xall (fun _ a => xBm a) 1 b s codez_2659 := And.intro mobz_357 mobz_2405
theorem mocodez_2660 (b s : Nat) : xall (fun _ a => xBm a) 1 b s codez_2660 := And.intro mobz_1381 mobz_no
theorem mocodez_2661 (b s : Nat) : xall (fun _ a => xBm a) 2 b s codez_2661 := And.intro (mocodez_2659 b (2 * s)) (mocodez_2660 (b + s) (2 * s))
theorem mocodez_2662 (b s : Nat) : xall (fun _ a => xBm a) 1 b s codez_2662 := And.intro mobz_869 mobz_no
theorem mocodez_2663 (b s : Nat) : xall (fun _ a => xBm a) 1 b s codez_2663 := And.intro mobz_1893 mobz_no
theorem mocodez_2664 (b s : Nat) : xall (fun _ a => xBm a) 2 b s codez_2664 := And.intro (mocodez_2662 b (2 * s)) (mocodez_2663 (b + s) (2 * s))
theorem mocodez_2665 (b s : Nat) : xall (fun _ a => xBm a) 3 b s codez_2665 := And.intro (mocodez_2661 b (2 * s)) (mocodez_2664 (b + s) (2 * s))
theorem mocodez_2666 (b s : Nat) : xall (fun _ a => xBm a) 4 b s codez_2666 := And.intro (mocodez_2658 b (2 * s)) (mocodez_2665 (b + s) (2 * s))
theorem mocodez_2667 (b s : Nat) : xall (fun _ a => xBm a) 1 b s codez_2667 := And.intro mobz_229 mobz_2277
theorem mocodez_2668 (b s : Nat) : xall (fun _ a => xBm a) 1 b s codez_2668 := And.intro mobz_1253 mobz_no
theorem mocodez_2669 (b s : Nat) : xall (fun _ a => xBm a) 2 b s codez_2669 := And.intro (mocodez_2667 b (2 * s)) (mocodez_2668 (b + s) (2 * s))
theorem mocodez_2670 (b s : Nat) : xall (fun _ a => xBm a) 1 b s codez_2670 := And.intro mobz_741 mobz_no
theorem mocodez_2671 (b s : Nat) : xall (fun _ a => xBm a) 1 b s codez_2671 := And.intro mobz_1765 mobz_no
theorem mocodez_2672 (b s : Nat) : xall (fun _ a => xBm a) 2 b s codez_2672 := And.intro (mocodez_2670 b (2 * s)) (mocodez_2671 (b + s) (2 * s))
theorem mocodez_2673 (b s : Nat) : xall (fun _ a => xBm a) 3 b s codez_2673 := And.intro (mocodez_2669 b (2 * s)) (mocodez_2672 (b + s) (2 * s))
theorem mocodez_2674 (b s : Nat) : xall (fun _ a => xBm a) 1 b s codez_2674 := And.intro mobz_485 mobz_2533
theorem mocodez_2675 (b s : Nat) : xall (fun _ a => xBm a) 1 b s codez_2675 := And.intro mobz_1509 mobz_no
theorem mocodez_2676 (b s : Nat) : xall (fun _ a => xBm a) 2 b s codez_2676 := And.intro (mocodez_2674 b (2 * s)) (mocodez_2675 (b + s) (2 * s))
theorem mocodez_2677 (b s : Nat) : xall (fun _ a => xBm a) 1 b s codez_2677 := And.intro mobz_997 mobz_no
theorem mocodez_2678 (b s : Nat) : xall (fun _ a => xBm a) 1 b s codez_2678 := And.intro mobz_2021 mobz_no
theorem mocodez_2679 (b s : Nat) : xall (fun _ a => xBm a) 2 b s codez_2679 := And.intro (mocodez_2677 b (2 * s)) (mocodez_2678 (b + s) (2 * s))
theorem mocodez_2680 (b s : Nat) : xall (fun _ a => xBm a) 3 b s codez_2680 := And.intro (mocodez_2676 b (2 * s)) (mocodez_2679 (b + s) (2 * s))
theorem mocodez_2681 (b s : Nat) : xall (fun _ a => xBm a) 4 b s codez_2681 := And.intro (mocodez_2673 b (2 * s)) (mocodez_2680 (b + s) (2 * s))
theorem mocodez_2682 (b s : Nat) : xall (fun _ a => xBm a) 5 b s codez_2682 := And.intro (mocodez_2666 b (2 * s)) (mocodez_2681 (b + s) (2 * s))
theorem mocodez_2683 (b s : Nat) : xall (fun _ a => xBm a) 6 b s codez_2683 := And.intro (mocodez_2651 b (2 * s)) (mocodez_2682 (b + s) (2 * s))
theorem mocodez_2684 (b s : Nat) : xall (fun _ a => xBm a) 7 b s codez_2684 := And.intro (mocodez_2620 b (2 * s)) (mocodez_2683 (b + s) (2 * s))
theorem mocodez_2685 (b s : Nat) : xall (fun _ a => xBm a) 1 b s codez_2685 := And.intro mobz_21 mobz_2069
theorem mocodez_2686 (b s : Nat) : xall (fun _ a => xBm a) 1 b s codez_2686 := And.intro mobz_1045 mobz_no
theorem mocodez_2687 (b s : Nat) : xall (fun _ a => xBm a) 2 b s codez_2687 := And.intro (mocodez_2685 b (2 * s)) (mocodez_2686 (b + s) (2 * s))
theorem mocodez_2688 (b s : Nat) : xall (fun _ a => xBm a) 1 b s codez_2688 := And.intro mobz_533 mobz_no
theorem mocodez_2689 (b s : Nat) : xall (fun _ a => xBm a) 1 b s codez_2689 := And.intro mobz_1557 mobz_no
theorem mocodez_2690 (b s : Nat) : xall (fun _ a => xBm a) 2 b s codez_2690 := And.intro (mocodez_2688 b (2 * s)) (mocodez_2689 (b + s) (2 * s))
theorem mocodez_2691 (b s : Nat) : xall (fun _ a => xBm a) 3 b s codez_2691 := And.intro (mocodez_2687 b (2 * s)) (mocodez_2690 (b + s) (2 * s))
theorem mocodez_2692 (b s : Nat) : xall (fun _ a => xBm a) 1 b s codez_2692 := And.intro mobz_277 mobz_2325
theorem mocodez_2693 (b s : Nat) : xall (fun _ a => xBm a) 1 b s codez_2693 := And.intro mobz_1301 mobz_no
theorem mocodez_2694 (b s : Nat) : xall (fun _ a => xBm a) 2 b s codez_2694 := And.intro (mocodez_2692 b (2 * s)) (mocodez_2693 (b + s) (2 * s))
theorem mocodez_2695 (b s : Nat) : xall (fun _ a => xBm a) 1 b s codez_2695 := And.intro mobz_789 mobz_no
theorem mocodez_2696 (b s : Nat) : xall (fun _ a => xBm a) 1 b s codez_2696 := And.intro mobz_1813 mobz_no
theorem mocodez_2697 (b s : Nat) : xall (fun _ a => xBm a) 2 b s codez_2697 := And.intro (mocodez_2695 b (2 * s)) (mocodez_2696 (b + s) (2 * s))
theorem mocodez_2698 (b s : Nat) : xall (fun _ a => xBm a) 3 b s codez_2698 := And.intro (mocodez_2694 b (2 * s)) (mocodez_2697 (b + s) (2 * s))
theorem mocodez_2699 (b s : Nat) : xall (fun _ a => xBm a) 4 b s codez_2699 := And.intro (mocodez_2691 b (2 * s)) (mocodez_2698 (b + s) (2 * s))
theorem mocodez_2700 (b s : Nat) : xall (fun _ a => xBm a) 1 b s codez_2700 := And.intro mobz_149 mobz_2197
theorem mocodez_2701 (b s : Nat) : xall (fun _ a => xBm a) 1 b s codez_2701 := And.intro mobz_1173 mobz_no
theorem mocodez_2702 (b s : Nat) : xall (fun _ a => xBm a) 2 b s codez_2702 := And.intro (mocodez_2700 b (2 * s)) (mocodez_2701 (b + s) (2 * s))
theorem mocodez_2703 (b s : Nat) : xall (fun _ a => xBm a) 1 b s codez_2703 := And.intro mobz_661 mobz_no
theorem mocodez_2704 (b s : Nat) : xall (fun _ a => xBm a) 1 b s codez_2704 := And.intro mobz_1685 mobz_no
theorem mocodez_2705 (b s : Nat) : xall (fun _ a => xBm a) 2 b s codez_2705 := And.intro (mocodez_2703 b (2 * s)) (mocodez_2704 (b + s) (2 * s))
theorem mocodez_2706 (b s : Nat) : xall (fun _ a => xBm a) 3 b s codez_2706 := And.intro (mocodez_2702 b (2 * s)) (mocodez_2705 (b + s) (2 * s))
theorem mocodez_2707 (b s : Nat) : xall (fun _ a => xBm a) 1 b s codez_2707 := And.intro mobz_405 mobz_2453
theorem mocodez_2708 (b s : Nat) : xall (fun _ a => xBm a) 1 b s codez_2708 := And.intro mobz_1429 mobz_no
theorem mocodez_2709 (b s : Nat) : xall (fun _ a => xBm a) 2 b s codez_2709 := And.intro (mocodez_2707 b (2 * s)) (mocodez_2708 (b + s) (2 * s))
theorem mocodez_2710 (b s : Nat) : xall (fun _ a => xBm a) 1 b s codez_2710 := And.intro mobz_917 mobz_no
theorem mocodez_2711 (b s : Nat) : xall (fun _ a => xBm a) 1 b s codez_2711 := And.intro mobz_1941 mobz_no
theorem mocodez_2712 (b s : Nat) : xall (fun _ a => xBm a) 2 b s codez_2712 := And.intro (mocodez_2710 b (2 * s)) (mocodez_2711 (b + s) (2 * s))
theorem mocodez_2713 (b s : Nat) : xall (fun _ a => xBm a) 3 b s codez_2713 := And.intro (mocodez_2709 b (2 * s)) (mocodez_2712 (b + s) (2 * s))
theorem mocodez_2714 (b s : Nat) : xall (fun _ a => xBm a) 4 b s codez_2714 := And.intro (mocodez_2706 b (2 * s)) (mocodez_2713 (b + s) (2 * s))
theorem mocodez_2715 (b s : Nat) : xall (fun _ a => xBm a) 5 b s codez_2715 := And.intro (mocodez_2699 b (2 * s)) (mocodez_2714 (b + s) (2 * s))
theorem mocodez_2716 (b s : Nat) : xall (fun _ a => xBm a) 1 b s codez_2716 := And.intro mobz_85 mobz_2133
theorem mocodez_2717 (b s : Nat) : xall (fun _ a => xBm a) 1 b s codez_2717 := And.intro mobz_1109 mobz_no
theorem mocodez_2718 (b s : Nat) : xall (fun _ a => xBm a) 2 b s codez_2718 := And.intro (mocodez_2716 b (2 * s)) (mocodez_2717 (b + s) (2 * s))
theorem mocodez_2719 (b s : Nat) : xall (fun _ a => xBm a) 1 b s codez_2719 := And.intro mobz_597 mobz_no
theorem mocodez_2720 (b s : Nat) : xall (fun _ a => xBm a) 1 b s codez_2720 := And.intro mobz_1621 mobz_no
theorem mocodez_2721 (b s : Nat) : xall (fun _ a => xBm a) 2 b s codez_2721 := And.intro (mocodez_2719 b (2 * s)) (mocodez_2720 (b + s) (2 * s))
theorem mocodez_2722 (b s : Nat) : xall (fun _ a => xBm a) 3 b s codez_2722 := And.intro (mocodez_2718 b (2 * s)) (mocodez_2721 (b + s) (2 * s))
theorem mocodez_2723 (b s : Nat) : xall (fun _ a => xBm a) 1 b s codez_2723 := And.intro mobz_341 mobz_2389
theorem mocodez_2724 (b s : Nat) : xall (fun _ a => xBm a) 1 b s codez_2724 := And.intro mobz_1365 mobz_no
theorem mocodez_2725 (b s : Nat) : xall (fun _ a => xBm a) 2 b s codez_2725 := And.intro (mocodez_2723 b (2 * s)) (mocodez_2724 (b + s) (2 * s))
theorem mocodez_2726 (b s : Nat) : xall (fun _ a => xBm a) 1 b s codez_2726 := And.intro mobz_853 mobz_no
theorem mocodez_2727 (b s : Nat) : xall (fun _ a => xBm a) 1 b s codez_2727 := And.intro mobz_1877 mobz_no
theorem mocodez_2728 (b s : Nat) : xall (fun _ a => xBm a) 2 b s codez_2728 := And.intro (mocodez_2726 b (2 * s)) (mocodez_2727 (b + s) (2 * s))
theorem mocodez_2729 (b s : Nat) : xall (fun _ a => xBm a) 3 b s codez_2729 := And.intro (mocodez_2725 b (2 * s)) (mocodez_2728 (b + s) (2 * s))
theorem mocodez_2730 (b s : Nat) : xall (fun _ a => xBm a) 4 b s codez_2730 := And.intro (mocodez_2722 b (2 * s)) (mocodez_2729 (b + s) (2 * s))
theorem mocodez_2731 (b s : Nat) : xall (fun _ a => xBm a) 1 b s codez_2731 := And.intro mobz_213 mobz_2261
theorem mocodez_2732 (b s : Nat) : xall (fun _ a => xBm a) 1 b s codez_2732 := And.intro mobz_1237 mobz_no
theorem mocodez_2733 (b s : Nat) : xall (fun _ a => xBm a) 2 b s codez_2733 := And.intro (mocodez_2731 b (2 * s)) (mocodez_2732 (b + s) (2 * s))
theorem mocodez_2734 (b s : Nat) : xall (fun _ a => xBm a) 1 b s codez_2734 := And.intro mobz_725 mobz_no
theorem mocodez_2735 (b s : Nat) : xall (fun _ a => xBm a) 1 b s codez_2735 := And.intro mobz_1749 mobz_no
theorem mocodez_2736 (b s : Nat) : xall (fun _ a => xBm a) 2 b s codez_2736 := And.intro (mocodez_2734 b (2 * s)) (mocodez_2735 (b + s) (2 * s))
theorem mocodez_2737 (b s : Nat) : xall (fun _ a => xBm a) 3 b s codez_2737 := And.intro (mocodez_2733 b (2 * s)) (mocodez_2736 (b + s) (2 * s))
theorem mocodez_2738 (b s : Nat) : xall (fun _ a => xBm a) 1 b s codez_2738 := And.intro mobz_469 mobz_2517
theorem mocodez_2739 (b s : Nat) : xall (fun _ a => xBm a) 1 b s codez_2739 := And.intro mobz_1493 mobz_no
theorem mocodez_2740 (b s : Nat) : xall (fun _ a => xBm a) 2 b s codez_2740 := And.intro (mocodez_2738 b (2 * s)) (mocodez_2739 (b + s) (2 * s))
theorem mocodez_2741 (b s : Nat) : xall (fun _ a => xBm a) 1 b s codez_2741 := And.intro mobz_981 mobz_no
theorem mocodez_2742 (b s : Nat) : xall (fun _ a => xBm a) 1 b s codez_2742 := And.intro mobz_2005 mobz_no
theorem mocodez_2743 (b s : Nat) : xall (fun _ a => xBm a) 2 b s codez_2743 := And.intro (mocodez_2741 b (2 * s)) (mocodez_2742 (b + s) (2 * s))
theorem mocodez_2744 (b s : Nat) : xall (fun _ a => xBm a) 3 b s codez_2744 := And.intro (mocodez_2740 b (2 * s)) (mocodez_2743 (b + s) (2 * s))
theorem mocodez_2745 (b s : Nat) : xall (fun _ a => xBm a) 4 b s codez_2745 := And.intro (mocodez_2737 b (2 * s)) (mocodez_2744 (b + s) (2 * s))
theorem mocodez_2746 (b s : Nat) : xall (fun _ a => xBm a) 5 b s codez_2746 := And.intro (mocodez_2730 b (2 * s)) (mocodez_2745 (b + s) (2 * s))
theorem mocodez_2747 (b s : Nat) : xall (fun _ a => xBm a) 6 b s codez_2747 := And.intro (mocodez_2715 b (2 * s)) (mocodez_2746 (b + s) (2 * s))
theorem mocodez_2748 (b s : Nat) : xall (fun _ a => xBm a) 1 b s codez_2748 := And.intro mobz_53 mobz_2101
theorem mocodez_2749 (b s : Nat) : xall (fun _ a => xBm a) 1 b s codez_2749 := And.intro mobz_1077 mobz_no
theorem mocodez_2750 (b s : Nat) : xall (fun _ a => xBm a) 2 b s codez_2750 := And.intro (mocodez_2748 b (2 * s)) (mocodez_2749 (b + s) (2 * s))
theorem mocodez_2751 (b s : Nat) : xall (fun _ a => xBm a) 1 b s codez_2751 := And.intro mobz_565 mobz_no
theorem mocodez_2752 (b s : Nat) : xall (fun _ a => xBm a) 1 b s codez_2752 := And.intro mobz_1589 mobz_no
theorem mocodez_2753 (b s : Nat) : xall (fun _ a => xBm a) 2 b s codez_2753 := And.intro (mocodez_2751 b (2 * s)) (mocodez_2752 (b + s) (2 * s))
theorem mocodez_2754 (b s : Nat) : xall (fun _ a => xBm a) 3 b s codez_2754 := And.intro (mocodez_2750 b (2 * s)) (mocodez_2753 (b + s) (2 * s))
theorem mocodez_2755 (b s : Nat) : xall (fun _ a => xBm a) 1 b s codez_2755 := And.intro mobz_309 mobz_2357
theorem mocodez_2756 (b s : Nat) : xall (fun _ a => xBm a) 1 b s codez_2756 := And.intro mobz_1333 mobz_no
theorem mocodez_2757 (b s : Nat) : xall (fun _ a => xBm a) 2 b s codez_2757 := And.intro (mocodez_2755 b (2 * s)) (mocodez_2756 (b + s) (2 * s))
theorem mocodez_2758 (b s : Nat) : xall (fun _ a => xBm a) 1 b s codez_2758 := And.intro mobz_821 mobz_no
theorem mocodez_2759 (b s : Nat) : xall (fun _ a => xBm a) 1 b s codez_2759 := And.intro mobz_1845 mobz_no
theorem mocodez_2760 (b s : Nat) : xall (fun _ a => xBm a) 2 b s codez_2760 := And.intro (mocodez_2758 b (2 * s)) (mocodez_2759 (b + s) (2 * s))
theorem mocodez_2761 (b s : Nat) : xall (fun _ a => xBm a) 3 b s codez_2761 := And.intro (mocodez_2757 b (2 * s)) (mocodez_2760 (b + s) (2 * s))
theorem mocodez_2762 (b s : Nat) : xall (fun _ a => xBm a) 4 b s codez_2762 := And.intro (mocodez_2754 b (2 * s)) (mocodez_2761 (b + s) (2 * s))
theorem mocodez_2763 (b s : Nat) : xall (fun _ a => xBm a) 1 b s codez_2763 := And.intro mobz_181 mobz_2229
theorem mocodez_2764 (b s : Nat) : xall (fun _ a => xBm a) 1 b s codez_2764 := And.intro mobz_1205 mobz_no
theorem mocodez_2765 (b s : Nat) : xall (fun _ a => xBm a) 2 b s codez_2765 := And.intro (mocodez_2763 b (2 * s)) (mocodez_2764 (b + s) (2 * s))
theorem mocodez_2766 (b s : Nat) : xall (fun _ a => xBm a) 1 b s codez_2766 := And.intro mobz_693 mobz_no
theorem mocodez_2767 (b s : Nat) : xall (fun _ a => xBm a) 1 b s codez_2767 := And.intro mobz_1717 mobz_no
theorem mocodez_2768 (b s : Nat) : xall (fun _ a => xBm a) 2 b s codez_2768 := And.intro (mocodez_2766 b (2 * s)) (mocodez_2767 (b + s) (2 * s))
theorem mocodez_2769 (b s : Nat) : xall (fun _ a => xBm a) 3 b s codez_2769 := And.intro (mocodez_2765 b (2 * s)) (mocodez_2768 (b + s) (2 * s))
theorem mocodez_2770 (b s : Nat) : xall (fun _ a => xBm a) 1 b s codez_2770 := And.intro mobz_437 mobz_2485
theorem mocodez_2771 (b s : Nat) : xall (fun _ a => xBm a) 1 b s codez_2771 := And.intro mobz_1461 mobz_no
theorem mocodez_2772 (b s : Nat) : xall (fun _ a => xBm a) 2 b s codez_2772 := And.intro (mocodez_2770 b (2 * s)) (mocodez_2771 (b + s) (2 * s))
theorem mocodez_2773 (b s : Nat) : xall (fun _ a => xBm a) 1 b s codez_2773 := And.intro mobz_949 mobz_no
theorem mocodez_2774 (b s : Nat) : xall (fun _ a => xBm a) 1 b s codez_2774 := And.intro mobz_1973 mobz_no
theorem mocodez_2775 (b s : Nat) : xall (fun _ a => xBm a) 2 b s codez_2775 := And.intro (mocodez_2773 b (2 * s)) (mocodez_2774 (b + s) (2 * s))
theorem mocodez_2776 (b s : Nat) : xall (fun _ a => xBm a) 3 b s codez_2776 := And.intro (mocodez_2772 b (2 * s)) (mocodez_2775 (b + s) (2 * s))
theorem mocodez_2777 (b s : Nat) : xall (fun _ a => xBm a) 4 b s codez_2777 := And.intro (mocodez_2769 b (2 * s)) (mocodez_2776 (b + s) (2 * s))
theorem mocodez_2778 (b s : Nat) : xall (fun _ a => xBm a) 5 b s codez_2778 := And.intro (mocodez_2762 b (2 * s)) (mocodez_2777 (b + s) (2 * s))
theorem mocodez_2779 (b s : Nat) : xall (fun _ a => xBm a) 1 b s codez_2779 := And.intro mobz_117 mobz_2165
theorem mocodez_2780 (b s : Nat) : xall (fun _ a => xBm a) 1 b s codez_2780 := And.intro mobz_1141 mobz_no
theorem mocodez_2781 (b s : Nat) : xall (fun _ a => xBm a) 2 b s codez_2781 := And.intro (mocodez_2779 b (2 * s)) (mocodez_2780 (b + s) (2 * s))
theorem mocodez_2782 (b s : Nat) : xall (fun _ a => xBm a) 1 b s codez_2782 := And.intro mobz_629 mobz_no
theorem mocodez_2783 (b s : Nat) : xall (fun _ a => xBm a) 1 b s codez_2783 := And.intro mobz_1653 mobz_no
theorem mocodez_2784 (b s : Nat) : xall (fun _ a => xBm a) 2 b s codez_2784 := And.intro (mocodez_2782 b (2 * s)) (mocodez_2783 (b + s) (2 * s))
theorem mocodez_2785 (b s : Nat) : xall (fun _ a => xBm a) 3 b s codez_2785 := And.intro (mocodez_2781 b (2 * s)) (mocodez_2784 (b + s) (2 * s))
theorem mocodez_2786 (b s : Nat) : xall (fun _ a => xBm a) 1 b s codez_2786 := And.intro mobz_373 mobz_2421
theorem mocodez_2787 (b s : Nat) : xall (fun _ a => xBm a) 1 b s codez_2787 := And.intro mobz_1397 mobz_no
theorem mocodez_2788 (b s : Nat) : xall (fun _ a => xBm a) 2 b s codez_2788 := And.intro (mocodez_2786 b (2 * s)) (mocodez_2787 (b + s) (2 * s))
theorem mocodez_2789 (b s : Nat) : xall (fun _ a => xBm a) 1 b s codez_2789 := And.intro mobz_885 mobz_no
theorem mocodez_2790 (b s : Nat) : xall (fun _ a => xBm a) 1 b s codez_2790 := And.intro mobz_1909 mobz_no
theorem mocodez_2791 (b s : Nat) : xall (fun _ a => xBm a) 2 b s codez_2791 := And.intro (mocodez_2789 b (2 * s)) (mocodez_2790 (b + s) (2 * s))
theorem mocodez_2792 (b s : Nat) : xall (fun _ a => xBm a) 3 b s codez_2792 := And.intro (mocodez_2788 b (2 * s)) (mocodez_2791 (b + s) (2 * s))
theorem mocodez_2793 (b s : Nat) : xall (fun _ a => xBm a) 4 b s codez_2793 := And.intro (mocodez_2785 b (2 * s)) (mocodez_2792 (b + s) (2 * s))
theorem mocodez_2794 (b s : Nat) : xall (fun _ a => xBm a) 1 b s codez_2794 := And.intro mobz_245 mobz_2293
theorem mocodez_2795 (b s : Nat) : xall (fun _ a => xBm a) 1 b s codez_2795 := And.intro mobz_1269 mobz_no
theorem mocodez_2796 (b s : Nat) : xall (fun _ a => xBm a) 2 b s codez_2796 := And.intro (mocodez_2794 b (2 * s)) (mocodez_2795 (b + s) (2 * s))
theorem mocodez_2797 (b s : Nat) : xall (fun _ a => xBm a) 1 b s codez_2797 := And.intro mobz_757 mobz_no
theorem mocodez_2798 (b s : Nat) : xall (fun _ a => xBm a) 1 b s codez_2798 := And.intro mobz_1781 mobz_no
theorem mocodez_2799 (b s : Nat) : xall (fun _ a => xBm a) 2 b s codez_2799 := And.intro (mocodez_2797 b (2 * s)) (mocodez_2798 (b + s) (2 * s))
theorem mocodez_2800 (b s : Nat) : xall (fun _ a => xBm a) 3 b s codez_2800 := And.intro (mocodez_2796 b (2 * s)) (mocodez_2799 (b + s) (2 * s))
theorem mocodez_2801 (b s : Nat) : xall (fun _ a => xBm a) 1 b s codez_2801 := And.intro mobz_501 mobz_no
theorem mocodez_2802 (b s : Nat) : xall (fun _ a => xBm a) 1 b s codez_2802 := And.intro mobz_1525 mobz_no
theorem mocodez_2803 (b s : Nat) : xall (fun _ a => xBm a) 2 b s codez_2803 := And.intro (mocodez_2801 b (2 * s)) (mocodez_2802 (b + s) (2 * s))
theorem mocodez_2804 (b s : Nat) : xall (fun _ a => xBm a) 1 b s codez_2804 := And.intro mobz_1013 mobz_no
theorem mocodez_2805 (b s : Nat) : xall (fun _ a => xBm a) 1 b s codez_2805 := And.intro mobz_2037 mobz_no
theorem mocodez_2806 (b s : Nat) : xall (fun _ a => xBm a) 2 b s codez_2806 := And.intro (mocodez_2804 b (2 * s)) (mocodez_2805 (b + s) (2 * s))
theorem mocodez_2807 (b s : Nat) : xall (fun _ a => xBm a) 3 b s codez_2807 := And.intro (mocodez_2803 b (2 * s)) (mocodez_2806 (b + s) (2 * s))
theorem mocodez_2808 (b s : Nat) : xall (fun _ a => xBm a) 4 b s codez_2808 := And.intro (mocodez_2800 b (2 * s)) (mocodez_2807 (b + s) (2 * s))
theorem mocodez_2809 (b s : Nat) : xall (fun _ a => xBm a) 5 b s codez_2809 := And.intro (mocodez_2793 b (2 * s)) (mocodez_2808 (b + s) (2 * s))
theorem mocodez_2810 (b s : Nat) : xall (fun _ a => xBm a) 6 b s codez_2810 := And.intro (mocodez_2778 b (2 * s)) (mocodez_2809 (b + s) (2 * s))
theorem mocodez_2811 (b s : Nat) : xall (fun _ a => xBm a) 7 b s codez_2811 := And.intro (mocodez_2747 b (2 * s)) (mocodez_2810 (b + s) (2 * s))
theorem mocodez_2812 (b s : Nat) : xall (fun _ a => xBm a) 8 b s codez_2812 := And.intro (mocodez_2684 b (2 * s)) (mocodez_2811 (b + s) (2 * s))
theorem mocodez_2813 (b s : Nat) : xall (fun _ a => xBm a) 1 b s codez_2813 := And.intro mobz_13 mobz_2061
theorem mocodez_2814 (b s : Nat) : xall (fun _ a => xBm a) 1 b s codez_2814 := And.intro mobz_1037 mobz_no
theorem mocodez_2815 (b s : Nat) : xall (fun _ a => xBm a) 2 b s codez_2815 := And.intro (mocodez_2813 b (2 * s)) (mocodez_2814 (b + s) (2 * s))
theorem mocodez_2816 (b s : Nat) : xall (fun _ a => xBm a) 1 b s codez_2816 := And.intro mobz_525 mobz_no
theorem mocodez_2817 (b s : Nat) : xall (fun _ a => xBm a) 1 b s codez_2817 := And.intro mobz_1549 mobz_no
theorem mocodez_2818 (b s : Nat) : xall (fun _ a => xBm a) 2 b s codez_2818 := And.intro (mocodez_2816 b (2 * s)) (mocodez_2817 (b + s) (2 * s))
theorem mocodez_2819 (b s : Nat) : xall (fun _ a => xBm a) 3 b s codez_2819 := And.intro (mocodez_2815 b (2 * s)) (mocodez_2818 (b + s) (2 * s))
theorem mocodez_2820 (b s : Nat) : xall (fun _ a => xBm a) 1 b s codez_2820 := And.intro mobz_269 mobz_2317
theorem mocodez_2821 (b s : Nat) : xall (fun _ a => xBm a) 1 b s codez_2821 := And.intro mobz_1293 mobz_no
theorem mocodez_2822 (b s : Nat) : xall (fun _ a => xBm a) 2 b s codez_2822 := And.intro (mocodez_2820 b (2 * s)) (mocodez_2821 (b + s) (2 * s))
theorem mocodez_2823 (b s : Nat) : xall (fun _ a => xBm a) 1 b s codez_2823 := And.intro mobz_781 mobz_no
theorem mocodez_2824 (b s : Nat) : xall (fun _ a => xBm a) 1 b s codez_2824 := And.intro mobz_1805 mobz_no
theorem mocodez_2825 (b s : Nat) : xall (fun _ a => xBm a) 2 b s codez_2825 := And.intro (mocodez_2823 b (2 * s)) (mocodez_2824 (b + s) (2 * s))
theorem mocodez_2826 (b s : Nat) : xall (fun _ a => xBm a) 3 b s codez_2826 := And.intro (mocodez_2822 b (2 * s)) (mocodez_2825 (b + s) (2 * s))
theorem mocodez_2827 (b s : Nat) : xall (fun _ a => xBm a) 4 b s codez_2827 := And.intro (mocodez_2819 b (2 * s)) (mocodez_2826 (b + s) (2 * s))
theorem mocodez_2828 (b s : Nat) : xall (fun _ a => xBm a) 1 b s codez_2828 := And.intro mobz_141 mobz_2189
theorem mocodez_2829 (b s : Nat) : xall (fun _ a => xBm a) 1 b s codez_2829 := And.intro mobz_1165 mobz_no
theorem mocodez_2830 (b s : Nat) : xall (fun _ a => xBm a) 2 b s codez_2830 := And.intro (mocodez_2828 b (2 * s)) (mocodez_2829 (b + s) (2 * s))
theorem mocodez_2831 (b s : Nat) : xall (fun _ a => xBm a) 1 b s codez_2831 := And.intro mobz_653 mobz_no
theorem mocodez_2832 (b s : Nat) : xall (fun _ a => xBm a) 1 b s codez_2832 := And.intro mobz_1677 mobz_no
theorem mocodez_2833 (b s : Nat) : xall (fun _ a => xBm a) 2 b s codez_2833 := And.intro (mocodez_2831 b (2 * s)) (mocodez_2832 (b + s) (2 * s))
theorem mocodez_2834 (b s : Nat) : xall (fun _ a => xBm a) 3 b s codez_2834 := And.intro (mocodez_2830 b (2 * s)) (mocodez_2833 (b + s) (2 * s))
theorem mocodez_2835 (b s : Nat) : xall (fun _ a => xBm a) 1 b s codez_2835 := And.intro mobz_397 mobz_2445
theorem mocodez_2836 (b s : Nat) : xall (fun _ a => xBm a) 1 b s codez_2836 := And.intro mobz_1421 mobz_no
theorem mocodez_2837 (b s : Nat) : xall (fun _ a => xBm a) 2 b s codez_2837 := And.intro (mocodez_2835 b (2 * s)) (mocodez_2836 (b + s) (2 * s))
theorem mocodez_2838 (b s : Nat) : xall (fun _ a => xBm a) 1 b s codez_2838 := And.intro mobz_909 mobz_no
theorem mocodez_2839 (b s : Nat) : xall (fun _ a => xBm a) 1 b s codez_2839 := And.intro mobz_1933 mobz_no
theorem mocodez_2840 (b s : Nat) : xall (fun _ a => xBm a) 2 b s codez_2840 := And.intro (mocodez_2838 b (2 * s)) (mocodez_2839 (b + s) (2 * s))
theorem mocodez_2841 (b s : Nat) : xall (fun _ a => xBm a) 3 b s codez_2841 := And.intro (mocodez_2837 b (2 * s)) (mocodez_2840 (b + s) (2 * s))
theorem mocodez_2842 (b s : Nat) : xall (fun _ a => xBm a) 4 b s codez_2842 := And.intro (mocodez_2834 b (2 * s)) (mocodez_2841 (b + s) (2 * s))
theorem mocodez_2843 (b s : Nat) : xall (fun _ a => xBm a) 5 b s codez_2843 := And.intro (mocodez_2827 b (2 * s)) (mocodez_2842 (b + s) (2 * s))
theorem mocodez_2844 (b s : Nat) : xall (fun _ a => xBm a) 1 b s codez_2844 := And.intro mobz_77 mobz_2125
theorem mocodez_2845 (b s : Nat) : xall (fun _ a => xBm a) 1 b s codez_2845 := And.intro mobz_1101 mobz_no
theorem mocodez_2846 (b s : Nat) : xall (fun _ a => xBm a) 2 b s codez_2846 := And.intro (mocodez_2844 b (2 * s)) (mocodez_2845 (b + s) (2 * s))
theorem mocodez_2847 (b s : Nat) : xall (fun _ a => xBm a) 1 b s codez_2847 := And.intro mobz_589 mobz_no
theorem mocodez_2848 (b s : Nat) : xall (fun _ a => xBm a) 1 b s codez_2848 := And.intro mobz_1613 mobz_no
theorem mocodez_2849 (b s : Nat) : xall (fun _ a => xBm a) 2 b s codez_2849 := And.intro (mocodez_2847 b (2 * s)) (mocodez_2848 (b + s) (2 * s))
theorem mocodez_2850 (b s : Nat) : xall (fun _ a => xBm a) 3 b s codez_2850 := And.intro (mocodez_2846 b (2 * s)) (mocodez_2849 (b + s) (2 * s))
theorem mocodez_2851 (b s : Nat) : xall (fun _ a => xBm a) 1 b s codez_2851 := And.intro mobz_333 mobz_2381
theorem mocodez_2852 (b s : Nat) : xall (fun _ a => xBm a) 1 b s codez_2852 := And.intro mobz_1357 mobz_no
theorem mocodez_2853 (b s : Nat) : xall (fun _ a => xBm a) 2 b s codez_2853 := And.intro (mocodez_2851 b (2 * s)) (mocodez_2852 (b + s) (2 * s))
theorem mocodez_2854 (b s : Nat) : xall (fun _ a => xBm a) 1 b s codez_2854 := And.intro mobz_845 mobz_no
theorem mocodez_2855 (b s : Nat) : xall (fun _ a => xBm a) 1 b s codez_2855 := And.intro mobz_1869 mobz_no
theorem mocodez_2856 (b s : Nat) : xall (fun _ a => xBm a) 2 b s codez_2856 := And.intro (mocodez_2854 b (2 * s)) (mocodez_2855 (b + s) (2 * s))
theorem mocodez_2857 (b s : Nat) : xall (fun _ a => xBm a) 3 b s codez_2857 := And.intro (mocodez_2853 b (2 * s)) (mocodez_2856 (b + s) (2 * s))
theorem mocodez_2858 (b s : Nat) : xall (fun _ a => xBm a) 4 b s codez_2858 := And.intro (mocodez_2850 b (2 * s)) (mocodez_2857 (b + s) (2 * s))
theorem mocodez_2859 (b s : Nat) : xall (fun _ a => xBm a) 1 b s codez_2859 := And.intro mobz_205 mobz_2253
theorem mocodez_2860 (b s : Nat) : xall (fun _ a => xBm a) 1 b s codez_2860 := And.intro mobz_1229 mobz_no
theorem mocodez_2861 (b s : Nat) : xall (fun _ a => xBm a) 2 b s codez_2861 := And.intro (mocodez_2859 b (2 * s)) (mocodez_2860 (b + s) (2 * s))
theorem mocodez_2862 (b s : Nat) : xall (fun _ a => xBm a) 1 b s codez_2862 := And.intro mobz_717 mobz_no
theorem mocodez_2863 (b s : Nat) : xall (fun _ a => xBm a) 1 b s codez_2863 := And.intro mobz_1741 mobz_no
theorem mocodez_2864 (b s : Nat) : xall (fun _ a => xBm a) 2 b s codez_2864 := And.intro (mocodez_2862 b (2 * s)) (mocodez_2863 (b + s) (2 * s))
theorem mocodez_2865 (b s : Nat) : xall (fun _ a => xBm a) 3 b s codez_2865 := And.intro (mocodez_2861 b (2 * s)) (mocodez_2864 (b + s) (2 * s))
theorem mocodez_2866 (b s : Nat) : xall (fun _ a => xBm a) 1 b s codez_2866 := And.intro mobz_461 mobz_2509
theorem mocodez_2867 (b s : Nat) : xall (fun _ a => xBm a) 1 b s codez_2867 := And.intro mobz_1485 mobz_no
theorem mocodez_2868 (b s : Nat) : xall (fun _ a => xBm a) 2 b s codez_2868 := And.intro (mocodez_2866 b (2 * s)) (mocodez_2867 (b + s) (2 * s))
theorem mocodez_2869 (b s : Nat) : xall (fun _ a => xBm a) 1 b s codez_2869 := And.intro mobz_973 mobz_no
theorem mocodez_2870 (b s : Nat) : xall (fun _ a => xBm a) 1 b s codez_2870 := And.intro mobz_1997 mobz_no
theorem mocodez_2871 (b s : Nat) : xall (fun _ a => xBm a) 2 b s codez_2871 := And.intro (mocodez_2869 b (2 * s)) (mocodez_2870 (b + s) (2 * s))
theorem mocodez_2872 (b s : Nat) : xall (fun _ a => xBm a) 3 b s codez_2872 := And.intro (mocodez_2868 b (2 * s)) (mocodez_2871 (b + s) (2 * s))
theorem mocodez_2873 (b s : Nat) : xall (fun _ a => xBm a) 4 b s codez_2873 := And.intro (mocodez_2865 b (2 * s)) (mocodez_2872 (b + s) (2 * s))
theorem mocodez_2874 (b s : Nat) : xall (fun _ a => xBm a) 5 b s codez_2874 := And.intro (mocodez_2858 b (2 * s)) (mocodez_2873 (b + s) (2 * s))
theorem mocodez_2875 (b s : Nat) : xall (fun _ a => xBm a) 6 b s codez_2875 := And.intro (mocodez_2843 b (2 * s)) (mocodez_2874 (b + s) (2 * s))
theorem mocodez_2876 (b s : Nat) : xall (fun _ a => xBm a) 1 b s codez_2876 := And.intro mobz_45 mobz_2093
theorem mocodez_2877 (b s : Nat) : xall (fun _ a => xBm a) 1 b s codez_2877 := And.intro mobz_1069 mobz_no
theorem mocodez_2878 (b s : Nat) : xall (fun _ a => xBm a) 2 b s codez_2878 := And.intro (mocodez_2876 b (2 * s)) (mocodez_2877 (b + s) (2 * s))
theorem mocodez_2879 (b s : Nat) : xall (fun _ a => xBm a) 1 b s codez_2879 := And.intro mobz_557 mobz_no
theorem mocodez_2880 (b s : Nat) : xall (fun _ a => xBm a) 1 b s codez_2880 := And.intro mobz_1581 mobz_no
theorem mocodez_2881 (b s : Nat) : xall (fun _ a => xBm a) 2 b s codez_2881 := And.intro (mocodez_2879 b (2 * s)) (mocodez_2880 (b + s) (2 * s))
theorem mocodez_2882 (b s : Nat) : xall (fun _ a => xBm a) 3 b s codez_2882 := And.intro (mocodez_2878 b (2 * s)) (mocodez_2881 (b + s) (2 * s))
theorem mocodez_2883 (b s : Nat) : xall (fun _ a => xBm a) 1 b s codez_2883 := And.intro mobz_301 mobz_2349
theorem mocodez_2884 (b s : Nat) : xall (fun _ a => xBm a) 1 b s codez_2884 := And.intro mobz_1325 mobz_no
theorem mocodez_2885 (b s : Nat) : xall (fun _ a => xBm a) 2 b s codez_2885 := And.intro (mocodez_2883 b (2 * s)) (mocodez_2884 (b + s) (2 * s))
theorem mocodez_2886 (b s : Nat) : xall (fun _ a => xBm a) 1 b s codez_2886 := And.intro mobz_813 mobz_no
theorem mocodez_2887 (b s : Nat) : xall (fun _ a => xBm a) 1 b s codez_2887 := And.intro mobz_1837 mobz_no
theorem mocodez_2888 (b s : Nat) : xall (fun _ a => xBm a) 2 b s codez_2888 := And.intro (mocodez_2886 b (2 * s)) (mocodez_2887 (b + s) (2 * s))
theorem mocodez_2889 (b s : Nat) : xall (fun _ a => xBm a) 3 b s codez_2889 := And.intro (mocodez_2885 b (2 * s)) (mocodez_2888 (b + s) (2 * s))
theorem mocodez_2890 (b s : Nat) : xall (fun _ a => xBm a) 4 b s codez_2890 := And.intro (mocodez_2882 b (2 * s)) (mocodez_2889 (b + s) (2 * s))
theorem mocodez_2891 (b s : Nat) : xall (fun _ a => xBm a) 1 b s codez_2891 := And.intro mobz_173 mobz_2221
theorem mocodez_2892 (b s : Nat) : xall (fun _ a => xBm a) 1 b s codez_2892 := And.intro mobz_1197 mobz_no
theorem mocodez_2893 (b s : Nat) : xall (fun _ a => xBm a) 2 b s codez_2893 := And.intro (mocodez_2891 b (2 * s)) (mocodez_2892 (b + s) (2 * s))
theorem mocodez_2894 (b s : Nat) : xall (fun _ a => xBm a) 1 b s codez_2894 := And.intro mobz_685 mobz_no
theorem mocodez_2895 (b s : Nat) : xall (fun _ a => xBm a) 1 b s codez_2895 := And.intro mobz_1709 mobz_no
theorem mocodez_2896 (b s : Nat) : xall (fun _ a => xBm a) 2 b s codez_2896 := And.intro (mocodez_2894 b (2 * s)) (mocodez_2895 (b + s) (2 * s))
theorem mocodez_2897 (b s : Nat) : xall (fun _ a => xBm a) 3 b s codez_2897 := And.intro (mocodez_2893 b (2 * s)) (mocodez_2896 (b + s) (2 * s))
theorem mocodez_2898 (b s : Nat) : xall (fun _ a => xBm a) 1 b s codez_2898 := And.intro mobz_429 mobz_2477
theorem mocodez_2899 (b s : Nat) : xall (fun _ a => xBm a) 1 b s codez_2899 := And.intro mobz_1453 mobz_no
theorem mocodez_2900 (b s : Nat) : xall (fun _ a => xBm a) 2 b s codez_2900 := And.intro (mocodez_2898 b (2 * s)) (mocodez_2899 (b + s) (2 * s))
theorem mocodez_2901 (b s : Nat) : xall (fun _ a => xBm a) 1 b s codez_2901 := And.intro mobz_941 mobz_no
theorem mocodez_2902 (b s : Nat) : xall (fun _ a => xBm a) 1 b s codez_2902 := And.intro mobz_1965 mobz_no
theorem mocodez_2903 (b s : Nat) : xall (fun _ a => xBm a) 2 b s codez_2903 := And.intro (mocodez_2901 b (2 * s)) (mocodez_2902 (b + s) (2 * s))
theorem mocodez_2904 (b s : Nat) : xall (fun _ a => xBm a) 3 b s codez_2904 := And.intro (mocodez_2900 b (2 * s)) (mocodez_2903 (b + s) (2 * s))
theorem mocodez_2905 (b s : Nat) : xall (fun _ a => xBm a) 4 b s codez_2905 := And.intro (mocodez_2897 b (2 * s)) (mocodez_2904 (b + s) (2 * s))
theorem mocodez_2906 (b s : Nat) : xall (fun _ a => xBm a) 5 b s codez_2906 := And.intro (mocodez_2890 b (2 * s)) (mocodez_2905 (b + s) (2 * s))
theorem mocodez_2907 (b s : Nat) : xall (fun _ a => xBm a) 1 b s codez_2907 := And.intro mobz_109 mobz_2157
theorem mocodez_2908 (b s : Nat) : xall (fun _ a => xBm a) 1 b s codez_2908 := And.intro mobz_1133 mobz_no
theorem mocodez_2909 (b s : Nat) : xall (fun _ a => xBm a) 2 b s codez_2909 := And.intro (mocodez_2907 b (2 * s)) (mocodez_2908 (b + s) (2 * s))
theorem mocodez_2910 (b s : Nat) : xall (fun _ a => xBm a) 1 b s codez_2910 := And.intro mobz_621 mobz_no
theorem mocodez_2911 (b s : Nat) : xall (fun _ a => xBm a) 1 b s codez_2911 := And.intro mobz_1645 mobz_no
theorem mocodez_2912 (b s : Nat) : xall (fun _ a => xBm a) 2 b s codez_2912 := And.intro (mocodez_2910 b (2 * s)) (mocodez_2911 (b + s) (2 * s))
theorem mocodez_2913 (b s : Nat) : xall (fun _ a => xBm a) 3 b s codez_2913 := And.intro (mocodez_2909 b (2 * s)) (mocodez_2912 (b + s) (2 * s))
theorem mocodez_2914 (b s : Nat) : xall (fun _ a => xBm a) 1 b s codez_2914 := And.intro mobz_365 mobz_2413
theorem mocodez_2915 (b s : Nat) : xall (fun _ a => xBm a) 1 b s codez_2915 := And.intro mobz_1389 mobz_no
theorem mocodez_2916 (b s : Nat) : xall (fun _ a => xBm a) 2 b s codez_2916 := And.intro (mocodez_2914 b (2 * s)) (mocodez_2915 (b + s) (2 * s))
theorem mocodez_2917 (b s : Nat) : xall (fun _ a => xBm a) 1 b s codez_2917 := And.intro mobz_877 mobz_no
theorem mocodez_2918 (b s : Nat) : xall (fun _ a => xBm a) 1 b s codez_2918 := And.intro mobz_1901 mobz_no
theorem mocodez_2919 (b s : Nat) : xall (fun _ a => xBm a) 2 b s codez_2919 := And.intro (mocodez_2917 b (2 * s)) (mocodez_2918 (b + s) (2 * s))
theorem mocodez_2920 (b s : Nat) : xall (fun _ a => xBm a) 3 b s codez_2920 := And.intro (mocodez_2916 b (2 * s)) (mocodez_2919 (b + s) (2 * s))
theorem mocodez_2921 (b s : Nat) : xall (fun _ a => xBm a) 4 b s codez_2921 := And.intro (mocodez_2913 b (2 * s)) (mocodez_2920 (b + s) (2 * s))
theorem mocodez_2922 (b s : Nat) : xall (fun _ a => xBm a) 1 b s codez_2922 := And.intro mobz_237 mobz_2285
theorem mocodez_2923 (b s : Nat) : xall (fun _ a => xBm a) 1 b s codez_2923 := And.intro mobz_1261 mobz_no
theorem mocodez_2924 (b s : Nat) : xall (fun _ a => xBm a) 2 b s codez_2924 := And.intro (mocodez_2922 b (2 * s)) (mocodez_2923 (b + s) (2 * s))
theorem mocodez_2925 (b s : Nat) : xall (fun _ a => xBm a) 1 b s codez_2925 := And.intro mobz_749 mobz_no
theorem mocodez_2926 (b s : Nat) : xall (fun _ a => xBm a) 1 b s codez_2926 := And.intro mobz_1773 mobz_no
theorem mocodez_2927 (b s : Nat) : xall (fun _ a => xBm a) 2 b s codez_2927 := And.intro (mocodez_2925 b (2 * s)) (mocodez_2926 (b + s) (2 * s))
theorem mocodez_2928 (b s : Nat) : xall (fun _ a => xBm a) 3 b s codez_2928 := And.intro (mocodez_2924 b (2 * s)) (mocodez_2927 (b + s) (2 * s))
theorem mocodez_2929 (b s : Nat) : xall (fun _ a => xBm a) 1 b s codez_2929 := And.intro mobz_493 mobz_2541
theorem mocodez_2930 (b s : Nat) : xall (fun _ a => xBm a) 1 b s codez_2930 := And.intro mobz_1517 mobz_no
theorem mocodez_2931 (b s : Nat) : xall (fun _ a => xBm a) 2 b s codez_2931 := And.intro (mocodez_2929 b (2 * s)) (mocodez_2930 (b + s) (2 * s))
theorem mocodez_2932 (b s : Nat) : xall (fun _ a => xBm a) 1 b s codez_2932 := And.intro mobz_1005 mobz_no
theorem mocodez_2933 (b s : Nat) : xall (fun _ a => xBm a) 1 b s codez_2933 := And.intro mobz_2029 mobz_no
theorem mocodez_2934 (b s : Nat) : xall (fun _ a => xBm a) 2 b s codez_2934 := And.intro (mocodez_2932 b (2 * s)) (mocodez_2933 (b + s) (2 * s))
theorem mocodez_2935 (b s : Nat) : xall (fun _ a => xBm a) 3 b s codez_2935 := And.intro (mocodez_2931 b (2 * s)) (mocodez_2934 (b + s) (2 * s))
theorem mocodez_2936 (b s : Nat) : xall (fun _ a => xBm a) 4 b s codez_2936 := And.intro (mocodez_2928 b (2 * s)) (mocodez_2935 (b + s) (2 * s))
theorem mocodez_2937 (b s : Nat) : xall (fun _ a => xBm a) 5 b s codez_2937 := And.intro (mocodez_2921 b (2 * s)) (mocodez_2936 (b + s) (2 * s))
theorem mocodez_2938 (b s : Nat) : xall (fun _ a => xBm a) 6 b s codez_2938 := And.intro (mocodez_2906 b (2 * s)) (mocodez_2937 (b + s) (2 * s))
theorem mocodez_2939 (b s : Nat) : xall (fun _ a => xBm a) 7 b s codez_2939 := And.intro (mocodez_2875 b (2 * s)) (mocodez_2938 (b + s) (2 * s))
theorem mocodez_2940 (b s : Nat) : xall (fun _ a => xBm a) 1 b s codez_2940 := And.intro mobz_29 mobz_2077
theorem mocodez_2941 (b s : Nat) : xall (fun _ a => xBm a) 1 b s codez_2941 := And.intro mobz_1053 mobz_no
theorem mocodez_2942 (b s : Nat) : xall (fun _ a => xBm a) 2 b s codez_2942 := And.intro (mocodez_2940 b (2 * s)) (mocodez_2941 (b + s) (2 * s))
theorem mocodez_2943 (b s : Nat) : xall (fun _ a => xBm a) 1 b s codez_2943 := And.intro mobz_541 mobz_no
theorem mocodez_2944 (b s : Nat) : xall (fun _ a => xBm a) 1 b s codez_2944 := And.intro mobz_1565 mobz_no
theorem mocodez_2945 (b s : Nat) : xall (fun _ a => xBm a) 2 b s codez_2945 := And.intro (mocodez_2943 b (2 * s)) (mocodez_2944 (b + s) (2 * s))
theorem mocodez_2946 (b s : Nat) : xall (fun _ a => xBm a) 3 b s codez_2946 := And.intro (mocodez_2942 b (2 * s)) (mocodez_2945 (b + s) (2 * s))
theorem mocodez_2947 (b s : Nat) : xall (fun _ a => xBm a) 1 b s codez_2947 := And.intro mobz_285 mobz_2333
theorem mocodez_2948 (b s : Nat) : xall (fun _ a => xBm a) 1 b s codez_2948 := And.intro mobz_1309 mobz_no
theorem mocodez_2949 (b s : Nat) : xall (fun _ a => xBm a) 2 b s codez_2949 := And.intro (mocodez_2947 b (2 * s)) (mocodez_2948 (b + s) (2 * s))
theorem mocodez_2950 (b s : Nat) : xall (fun _ a => xBm a) 1 b s codez_2950 := And.intro mobz_797 mobz_no
theorem mocodez_2951 (b s : Nat) : xall (fun _ a => xBm a) 1 b s codez_2951 := And.intro mobz_1821 mobz_no
theorem mocodez_2952 (b s : Nat) : xall (fun _ a => xBm a) 2 b s codez_2952 := And.intro (mocodez_2950 b (2 * s)) (mocodez_2951 (b + s) (2 * s))
theorem mocodez_2953 (b s : Nat) : xall (fun _ a => xBm a) 3 b s codez_2953 := And.intro (mocodez_2949 b (2 * s)) (mocodez_2952 (b + s) (2 * s))
theorem mocodez_2954 (b s : Nat) : xall (fun _ a => xBm a) 4 b s codez_2954 := And.intro (mocodez_2946 b (2 * s)) (mocodez_2953 (b + s) (2 * s))
theorem mocodez_2955 (b s : Nat) : xall (fun _ a => xBm a) 1 b s codez_2955 := And.intro mobz_157 mobz_2205
theorem mocodez_2956 (b s : Nat) : xall (fun _ a => xBm a) 1 b s codez_2956 := And.intro mobz_1181 mobz_no
theorem mocodez_2957 (b s : Nat) : xall (fun _ a => xBm a) 2 b s codez_2957 := And.intro (mocodez_2955 b (2 * s)) (mocodez_2956 (b + s) (2 * s))
theorem mocodez_2958 (b s : Nat) : xall (fun _ a => xBm a) 1 b s codez_2958 := And.intro mobz_669 mobz_no
theorem mocodez_2959 (b s : Nat) : xall (fun _ a => xBm a) 1 b s codez_2959 := And.intro mobz_1693 mobz_no
theorem mocodez_2960 (b s : Nat) : xall (fun _ a => xBm a) 2 b s codez_2960 := And.intro (mocodez_2958 b (2 * s)) (mocodez_2959 (b + s) (2 * s))
theorem mocodez_2961 (b s : Nat) : xall (fun _ a => xBm a) 3 b s codez_2961 := And.intro (mocodez_2957 b (2 * s)) (mocodez_2960 (b + s) (2 * s))
theorem mocodez_2962 (b s : Nat) : xall (fun _ a => xBm a) 1 b s codez_2962 := And.intro mobz_413 mobz_2461
theorem mocodez_2963 (b s : Nat) : xall (fun _ a => xBm a) 1 b s codez_2963 := And.intro mobz_1437 mobz_no
theorem mocodez_2964 (b s : Nat) : xall (fun _ a => xBm a) 2 b s codez_2964 := And.intro (mocodez_2962 b (2 * s)) (mocodez_2963 (b + s) (2 * s))
theorem mocodez_2965 (b s : Nat) : xall (fun _ a => xBm a) 1 b s codez_2965 := And.intro mobz_925 mobz_no
theorem mocodez_2966 (b s : Nat) : xall (fun _ a => xBm a) 1 b s codez_2966 := And.intro mobz_1949 mobz_no
theorem mocodez_2967 (b s : Nat) : xall (fun _ a => xBm a) 2 b s codez_2967 := And.intro (mocodez_2965 b (2 * s)) (mocodez_2966 (b + s) (2 * s))
theorem mocodez_2968 (b s : Nat) : xall (fun _ a => xBm a) 3 b s codez_2968 := And.intro (mocodez_2964 b (2 * s)) (mocodez_2967 (b + s) (2 * s))
theorem mocodez_2969 (b s : Nat) : xall (fun _ a => xBm a) 4 b s codez_2969 := And.intro (mocodez_2961 b (2 * s)) (mocodez_2968 (b + s) (2 * s))
theorem mocodez_2970 (b s : Nat) : xall (fun _ a => xBm a) 5 b s codez_2970 := And.intro (mocodez_2954 b (2 * s)) (mocodez_2969 (b + s) (2 * s))
theorem mocodez_2971 (b s : Nat) : xall (fun _ a => xBm a) 1 b s codez_2971 := And.intro mobz_93 mobz_2141
theorem mocodez_2972 (b s : Nat) : xall (fun _ a => xBm a) 1 b s codez_2972 := And.intro mobz_1117 mobz_no
theorem mocodez_2973 (b s : Nat) : xall (fun _ a => xBm a) 2 b s codez_2973 := And.intro (mocodez_2971 b (2 * s)) (mocodez_2972 (b + s) (2 * s))
theorem mocodez_2974 (b s : Nat) : xall (fun _ a => xBm a) 1 b s codez_2974 := And.intro mobz_605 mobz_no
theorem mocodez_2975 (b s : Nat) : xall (fun _ a => xBm a) 1 b s codez_2975 := And.intro mobz_1629 mobz_no
theorem mocodez_2976 (b s : Nat) : xall (fun _ a => xBm a) 2 b s codez_2976 := And.intro (mocodez_2974 b (2 * s)) (mocodez_2975 (b + s) (2 * s))
theorem mocodez_2977 (b s : Nat) : xall (fun _ a => xBm a) 3 b s codez_2977 := And.intro (mocodez_2973 b (2 * s)) (mocodez_2976 (b + s) (2 * s))
theorem mocodez_2978 (b s : Nat) : xall (fun _ a => xBm a) 1 b s codez_2978 := And.intro mobz_349 mobz_2397
theorem mocodez_2979 (b s : Nat) : xall (fun _ a => xBm a) 1 b s codez_2979 := And.intro mobz_1373 mobz_no
theorem mocodez_2980 (b s : Nat) : xall (fun _ a => xBm a) 2 b s codez_2980 := And.intro (mocodez_2978 b (2 * s)) (mocodez_2979 (b + s) (2 * s))
theorem mocodez_2981 (b s : Nat) : xall (fun _ a => xBm a) 1 b s codez_2981 := And.intro mobz_861 mobz_no
theorem mocodez_2982 (b s : Nat) : xall (fun _ a => xBm a) 1 b s codez_2982 := And.intro mobz_1885 mobz_no
theorem mocodez_2983 (b s : Nat) : xall (fun _ a => xBm a) 2 b s codez_2983 := And.intro (mocodez_2981 b (2 * s)) (mocodez_2982 (b + s) (2 * s))
theorem mocodez_2984 (b s : Nat) : xall (fun _ a => xBm a) 3 b s codez_2984 := And.intro (mocodez_2980 b (2 * s)) (mocodez_2983 (b + s) (2 * s))
theorem mocodez_2985 (b s : Nat) : xall (fun _ a => xBm a) 4 b s codez_2985 := And.intro (mocodez_2977 b (2 * s)) (mocodez_2984 (b + s) (2 * s))
theorem mocodez_2986 (b s : Nat) : xall (fun _ a => xBm a) 1 b s codez_2986 := And.intro mobz_221 mobz_2269
theorem mocodez_2987 (b s : Nat) : xall (fun _ a => xBm a) 1 b s codez_2987 := And.intro mobz_1245 mobz_no
theorem mocodez_2988 (b s : Nat) : xall (fun _ a => xBm a) 2 b s codez_2988 := And.intro (mocodez_2986 b (2 * s)) (mocodez_2987 (b + s) (2 * s))
theorem mocodez_2989 (b s : Nat) : xall (fun _ a => xBm a) 1 b s codez_2989 := And.intro mobz_733 mobz_no
theorem mocodez_2990 (b s : Nat) : xall (fun _ a => xBm a) 1 b s codez_2990 := And.intro mobz_1757 mobz_no
theorem mocodez_2991 (b s : Nat) : xall (fun _ a => xBm a) 2 b s codez_2991 := And.intro (mocodez_2989 b (2 * s)) (mocodez_2990 (b + s) (2 * s))
theorem mocodez_2992 (b s : Nat) : xall (fun _ a => xBm a) 3 b s codez_2992 := And.intro (mocodez_2988 b (2 * s)) (mocodez_2991 (b + s) (2 * s))
theorem mocodez_2993 (b s : Nat) : xall (fun _ a => xBm a) 1 b s codez_2993 := And.intro mobz_477 mobz_2525
theorem mocodez_2994 (b s : Nat) : xall (fun _ a => xBm a) 1 b s codez_2994 := And.intro mobz_1501 mobz_no
theorem mocodez_2995 (b s : Nat) : xall (fun _ a => xBm a) 2 b s codez_2995 := And.intro (mocodez_2993 b (2 * s)) (mocodez_2994 (b + s) (2 * s))
theorem mocodez_2996 (b s : Nat) : xall (fun _ a => xBm a) 1 b s codez_2996 := And.intro mobz_989 mobz_no
theorem mocodez_2997 (b s : Nat) : xall (fun _ a => xBm a) 1 b s codez_2997 := And.intro mobz_2013 mobz_no
theorem mocodez_2998 (b s : Nat) : xall (fun _ a => xBm a) 2 b s codez_2998 := And.intro (mocodez_2996 b (2 * s)) (mocodez_2997 (b + s) (2 * s))
theorem mocodez_2999 (b s : Nat) : xall (fun _ a => xBm a) 3 b s codez_2999 := And.intro (mocodez_2995 b (2 * s)) (mocodez_2998 (b + s) (2 * s))
theorem mocodez_3000 (b s : Nat) : xall (fun _ a => xBm a) 4 b s codez_3000 := And.intro (mocodez_2992 b (2 * s)) (mocodez_2999 (b + s) (2 * s))
theorem mocodez_3001 (b s : Nat) : xall (fun _ a => xBm a) 5 b s codez_3001 := And.intro (mocodez_2985 b (2 * s)) (mocodez_3000 (b + s) (2 * s))
theorem mocodez_3002 (b s : Nat) : xall (fun _ a => xBm a) 6 b s codez_3002 := And.intro (mocodez_2970 b (2 * s)) (mocodez_3001 (b + s) (2 * s))
theorem mocodez_3003 (b s : Nat) : xall (fun _ a => xBm a) 1 b s codez_3003 := And.intro mobz_61 mobz_2109
theorem mocodez_3004 (b s : Nat) : xall (fun _ a => xBm a) 1 b s codez_3004 := And.intro mobz_1085 mobz_no
theorem mocodez_3005 (b s : Nat) : xall (fun _ a => xBm a) 2 b s codez_3005 := And.intro (mocodez_3003 b (2 * s)) (mocodez_3004 (b + s) (2 * s))
theorem mocodez_3006 (b s : Nat) : xall (fun _ a => xBm a) 1 b s codez_3006 := And.intro mobz_573 mobz_no
theorem mocodez_3007 (b s : Nat) : xall (fun _ a => xBm a) 1 b s codez_3007 := And.intro mobz_1597 mobz_no
theorem mocodez_3008 (b s : Nat) : xall (fun _ a => xBm a) 2 b s codez_3008 := And.intro (mocodez_3006 b (2 * s)) (mocodez_3007 (b + s) (2 * s))
theorem mocodez_3009 (b s : Nat) : xall (fun _ a => xBm a) 3 b s codez_3009 := And.intro (mocodez_3005 b (2 * s)) (mocodez_3008 (b + s) (2 * s))
theorem mocodez_3010 (b s : Nat) : xall (fun _ a => xBm a) 1 b s codez_3010 := And.intro mobz_317 mobz_2365
theorem mocodez_3011 (b s : Nat) : xall (fun _ a => xBm a) 1 b s codez_3011 := And.intro mobz_1341 mobz_no
theorem mocodez_3012 (b s : Nat) : xall (fun _ a => xBm a) 2 b s codez_3012 := And.intro (mocodez_3010 b (2 * s)) (mocodez_3011 (b + s) (2 * s))
theorem mocodez_3013 (b s : Nat) : xall (fun _ a => xBm a) 1 b s codez_3013 := And.intro mobz_829 mobz_no
theorem mocodez_3014 (b s : Nat) : xall (fun _ a => xBm a) 1 b s codez_3014 := And.intro mobz_1853 mobz_no
theorem mocodez_3015 (b s : Nat) : xall (fun _ a => xBm a) 2 b s codez_3015 := And.intro (mocodez_3013 b (2 * s)) (mocodez_3014 (b + s) (2 * s))
theorem mocodez_3016 (b s : Nat) : xall (fun _ a => xBm a) 3 b s codez_3016 := And.intro (mocodez_3012 b (2 * s)) (mocodez_3015 (b + s) (2 * s))
theorem mocodez_3017 (b s : Nat) : xall (fun _ a => xBm a) 4 b s codez_3017 := And.intro (mocodez_3009 b (2 * s)) (mocodez_3016 (b + s) (2 * s))
theorem mocodez_3018 (b s : Nat) : xall (fun _ a => xBm a) 1 b s codez_3018 := And.intro mobz_189 mobz_2237
theorem mocodez_3019 (b s : Nat) : xall (fun _ a => xBm a) 1 b s codez_3019 := And.intro mobz_1213 mobz_no
theorem mocodez_3020 (b s : Nat) : xall (fun _ a => xBm a) 2 b s codez_3020 := And.intro (mocodez_3018 b (2 * s)) (mocodez_3019 (b + s) (2 * s))
theorem mocodez_3021 (b s : Nat) : xall (fun _ a => xBm a) 1 b s codez_3021 := And.intro mobz_701 mobz_no
theorem mocodez_3022 (b s : Nat) : xall (fun _ a => xBm a) 1 b s codez_3022 := And.intro mobz_1725 mobz_no
theorem mocodez_3023 (b s : Nat) : xall (fun _ a => xBm a) 2 b s codez_3023 := And.intro (mocodez_3021 b (2 * s)) (mocodez_3022 (b + s) (2 * s))
theorem mocodez_3024 (b s : Nat) : xall (fun _ a => xBm a) 3 b s codez_3024 := And.intro (mocodez_3020 b (2 * s)) (mocodez_3023 (b + s) (2 * s))
theorem mocodez_3025 (b s : Nat) : xall (fun _ a => xBm a) 1 b s codez_3025 := And.intro mobz_445 mobz_2493
theorem mocodez_3026 (b s : Nat) : xall (fun _ a => xBm a) 1 b s codez_3026 := And.intro mobz_1469 mobz_no
theorem mocodez_3027 (b s : Nat) : xall (fun _ a => xBm a) 2 b s codez_3027 := And.intro (mocodez_3025 b (2 * s)) (mocodez_3026 (b + s) (2 * s))
theorem mocodez_3028 (b s : Nat) : xall (fun _ a => xBm a) 1 b s codez_3028 := And.intro mobz_957 mobz_no
theorem mocodez_3029 (b s : Nat) : xall (fun _ a => xBm a) 1 b s codez_3029 := And.intro mobz_1981 mobz_no
theorem mocodez_3030 (b s : Nat) : xall (fun _ a => xBm a) 2 b s codez_3030 := And.intro (mocodez_3028 b (2 * s)) (mocodez_3029 (b + s) (2 * s))
theorem mocodez_3031 (b s : Nat) : xall (fun _ a => xBm a) 3 b s codez_3031 := And.intro (mocodez_3027 b (2 * s)) (mocodez_3030 (b + s) (2 * s))
theorem mocodez_3032 (b s : Nat) : xall (fun _ a => xBm a) 4 b s codez_3032 := And.intro (mocodez_3024 b (2 * s)) (mocodez_3031 (b + s) (2 * s))
theorem mocodez_3033 (b s : Nat) : xall (fun _ a => xBm a) 5 b s codez_3033 := And.intro (mocodez_3017 b (2 * s)) (mocodez_3032 (b + s) (2 * s))
theorem mocodez_3034 (b s : Nat) : xall (fun _ a => xBm a) 1 b s codez_3034 := And.intro mobz_125 mobz_2173
theorem mocodez_3035 (b s : Nat) : xall (fun _ a => xBm a) 1 b s codez_3035 := And.intro mobz_1149 mobz_no
theorem mocodez_3036 (b s : Nat) : xall (fun _ a => xBm a) 2 b s codez_3036 := And.intro (mocodez_3034 b (2 * s)) (mocodez_3035 (b + s) (2 * s))
theorem mocodez_3037 (b s : Nat) : xall (fun _ a => xBm a) 1 b s codez_3037 := And.intro mobz_637 mobz_no
theorem mocodez_3038 (b s : Nat) : xall (fun _ a => xBm a) 1 b s codez_3038 := And.intro mobz_1661 mobz_no
theorem mocodez_3039 (b s : Nat) : xall (fun _ a => xBm a) 2 b s codez_3039 := And.intro (mocodez_3037 b (2 * s)) (mocodez_3038 (b + s) (2 * s))
theorem mocodez_3040 (b s : Nat) : xall (fun _ a => xBm a) 3 b s codez_3040 := And.intro (mocodez_3036 b (2 * s)) (mocodez_3039 (b + s) (2 * s))
theorem mocodez_3041 (b s : Nat) : xall (fun _ a => xBm a) 1 b s codez_3041 := And.intro mobz_381 mobz_2429
theorem mocodez_3042 (b s : Nat) : xall (fun _ a => xBm a) 1 b s codez_3042 := And.intro mobz_1405 mobz_no
theorem mocodez_3043 (b s : Nat) : xall (fun _ a => xBm a) 2 b s codez_3043 := And.intro (mocodez_3041 b (2 * s)) (mocodez_3042 (b + s) (2 * s))
theorem mocodez_3044 (b s : Nat) : xall (fun _ a => xBm a) 1 b s codez_3044 := And.intro mobz_893 mobz_no
theorem mocodez_3045 (b s : Nat) : xall (fun _ a => xBm a) 1 b s codez_3045 := And.intro mobz_1917 mobz_no
theorem mocodez_3046 (b s : Nat) : xall (fun _ a => xBm a) 2 b s codez_3046 := And.intro (mocodez_3044 b (2 * s)) (mocodez_3045 (b + s) (2 * s))
theorem mocodez_3047 (b s : Nat) : xall (fun _ a => xBm a) 3 b s codez_3047 := And.intro (mocodez_3043 b (2 * s)) (mocodez_3046 (b + s) (2 * s))
theorem mocodez_3048 (b s : Nat) : xall (fun _ a => xBm a) 4 b s codez_3048 := And.intro (mocodez_3040 b (2 * s)) (mocodez_3047 (b + s) (2 * s))
theorem mocodez_3049 (b s : Nat) : xall (fun _ a => xBm a) 1 b s codez_3049 := And.intro mobz_253 mobz_2301
theorem mocodez_3050 (b s : Nat) : xall (fun _ a => xBm a) 1 b s codez_3050 := And.intro mobz_1277 mobz_no
theorem mocodez_3051 (b s : Nat) : xall (fun _ a => xBm a) 2 b s codez_3051 := And.intro (mocodez_3049 b (2 * s)) (mocodez_3050 (b + s) (2 * s))
theorem mocodez_3052 (b s : Nat) : xall (fun _ a => xBm a) 1 b s codez_3052 := And.intro mobz_765 mobz_no
theorem mocodez_3053 (b s : Nat) : xall (fun _ a => xBm a) 1 b s codez_3053 := And.intro mobz_1789 mobz_no
theorem mocodez_3054 (b s : Nat) : xall (fun _ a => xBm a) 2 b s codez_3054 := And.intro (mocodez_3052 b (2 * s)) (mocodez_3053 (b + s) (2 * s))
theorem mocodez_3055 (b s : Nat) : xall (fun _ a => xBm a) 3 b s codez_3055 := And.intro (mocodez_3051 b (2 * s)) (mocodez_3054 (b + s) (2 * s))
theorem mocodez_3056 (b s : Nat) : xall (fun _ a => xBm a) 1 b s codez_3056 := And.intro mobz_509 mobz_no
theorem mocodez_3057 (b s : Nat) : xall (fun _ a => xBm a) 1 b s codez_3057 := And.intro mobz_1533 mobz_no
theorem mocodez_3058 (b s : Nat) : xall (fun _ a => xBm a) 2 b s codez_3058 := And.intro (mocodez_3056 b (2 * s)) (mocodez_3057 (b + s) (2 * s))
theorem mocodez_3059 (b s : Nat) : xall (fun _ a => xBm a) 1 b s codez_3059 := And.intro mobz_1021 mobz_no
theorem mocodez_3060 (b s : Nat) : xall (fun _ a => xBm a) 1 b s codez_3060 := And.intro mobz_2045 mobz_no
theorem mocodez_3061 (b s : Nat) : xall (fun _ a => xBm a) 2 b s codez_3061 := And.intro (mocodez_3059 b (2 * s)) (mocodez_3060 (b + s) (2 * s))
theorem mocodez_3062 (b s : Nat) : xall (fun _ a => xBm a) 3 b s codez_3062 := And.intro (mocodez_3058 b (2 * s)) (mocodez_3061 (b + s) (2 * s))
theorem mocodez_3063 (b s : Nat) : xall (fun _ a => xBm a) 4 b s codez_3063 := And.intro (mocodez_3055 b (2 * s)) (mocodez_3062 (b + s) (2 * s))
theorem mocodez_3064 (b s : Nat) : xall (fun _ a => xBm a) 5 b s codez_3064 := And.intro (mocodez_3048 b (2 * s)) (mocodez_3063 (b + s) (2 * s))
theorem mocodez_3065 (b s : Nat) : xall (fun _ a => xBm a) 6 b s codez_3065 := And.intro (mocodez_3033 b (2 * s)) (mocodez_3064 (b + s) (2 * s))
theorem mocodez_3066 (b s : Nat) : xall (fun _ a => xBm a) 7 b s codez_3066 := And.intro (mocodez_3002 b (2 * s)) (mocodez_3065 (b + s) (2 * s))
theorem mocodez_3067 (b s : Nat) : xall (fun _ a => xBm a) 8 b s codez_3067 := And.intro (mocodez_2939 b (2 * s)) (mocodez_3066 (b + s) (2 * s))
theorem mocodez_3068 (b s : Nat) : xall (fun _ a => xBm a) 9 b s codez_3068 := And.intro (mocodez_2812 b (2 * s)) (mocodez_3067 (b + s) (2 * s))
theorem mocodez_3069 (b s : Nat) : xall (fun _ a => xBm a) 10 b s codez_3069 := And.intro (mocodez_2557 b (2 * s)) (mocodez_3068 (b + s) (2 * s))
theorem mocodez_3070 (b s : Nat) : xall (fun _ a => xBm a) 1 b s codez_3070 := And.intro mobz_3 mobz_2051
theorem mocodez_3071 (b s : Nat) : xall (fun _ a => xBm a) 1 b s codez_3071 := And.intro mobz_1027 mobz_no
theorem mocodez_3072 (b s : Nat) : xall (fun _ a => xBm a) 2 b s codez_3072 := And.intro (mocodez_3070 b (2 * s)) (mocodez_3071 (b + s) (2 * s))
theorem mocodez_3073 (b s : Nat) : xall (fun _ a => xBm a) 1 b s codez_3073 := And.intro mobz_515 mobz_no
theorem mocodez_3074 (b s : Nat) : xall (fun _ a => xBm a) 1 b s codez_3074 := And.intro mobz_1539 mobz_no
theorem mocodez_3075 (b s : Nat) : xall (fun _ a => xBm a) 2 b s codez_3075 := And.intro (mocodez_3073 b (2 * s)) (mocodez_3074 (b + s) (2 * s))
theorem mocodez_3076 (b s : Nat) : xall (fun _ a => xBm a) 3 b s codez_3076 := And.intro (mocodez_3072 b (2 * s)) (mocodez_3075 (b + s) (2 * s))
theorem mocodez_3077 (b s : Nat) : xall (fun _ a => xBm a) 1 b s codez_3077 := And.intro mobz_259 mobz_2307
theorem mocodez_3078 (b s : Nat) : xall (fun _ a => xBm a) 1 b s codez_3078 := And.intro mobz_1283 mobz_no
theorem mocodez_3079 (b s : Nat) : xall (fun _ a => xBm a) 2 b s codez_3079 := And.intro (mocodez_3077 b (2 * s)) (mocodez_3078 (b + s) (2 * s))
theorem mocodez_3080 (b s : Nat) : xall (fun _ a => xBm a) 1 b s codez_3080 := And.intro mobz_771 mobz_no
theorem mocodez_3081 (b s : Nat) : xall (fun _ a => xBm a) 1 b s codez_3081 := And.intro mobz_1795 mobz_no
theorem mocodez_3082 (b s : Nat) : xall (fun _ a => xBm a) 2 b s codez_3082 := And.intro (mocodez_3080 b (2 * s)) (mocodez_3081 (b + s) (2 * s))
theorem mocodez_3083 (b s : Nat) : xall (fun _ a => xBm a) 3 b s codez_3083 := And.intro (mocodez_3079 b (2 * s)) (mocodez_3082 (b + s) (2 * s))
theorem mocodez_3084 (b s : Nat) : xall (fun _ a => xBm a) 4 b s codez_3084 := And.intro (mocodez_3076 b (2 * s)) (mocodez_3083 (b + s) (2 * s))
theorem mocodez_3085 (b s : Nat) : xall (fun _ a => xBm a) 1 b s codez_3085 := And.intro mobz_131 mobz_2179
theorem mocodez_3086 (b s : Nat) : xall (fun _ a => xBm a) 1 b s codez_3086 := And.intro mobz_1155 mobz_no
theorem mocodez_3087 (b s : Nat) : xall (fun _ a => xBm a) 2 b s codez_3087 := And.intro (mocodez_3085 b (2 * s)) (mocodez_3086 (b + s) (2 * s))
theorem mocodez_3088 (b s : Nat) : xall (fun _ a => xBm a) 1 b s codez_3088 := And.intro mobz_643 mobz_no
theorem mocodez_3089 (b s : Nat) : xall (fun _ a => xBm a) 1 b s codez_3089 := And.intro mobz_1667 mobz_no
theorem mocodez_3090 (b s : Nat) : xall (fun _ a => xBm a) 2 b s codez_3090 := And.intro (mocodez_3088 b (2 * s)) (mocodez_3089 (b + s) (2 * s))
theorem mocodez_3091 (b s : Nat) : xall (fun _ a => xBm a) 3 b s codez_3091 := And.intro (mocodez_3087 b (2 * s)) (mocodez_3090 (b + s) (2 * s))
theorem mocodez_3092 (b s : Nat) : xall (fun _ a => xBm a) 1 b s codez_3092 := And.intro mobz_387 mobz_2435
theorem mocodez_3093 (b s : Nat) : xall (fun _ a => xBm a) 1 b s codez_3093 := And.intro mobz_1411 mobz_no
theorem mocodez_3094 (b s : Nat) : xall (fun _ a => xBm a) 2 b s codez_3094 := And.intro (mocodez_3092 b (2 * s)) (mocodez_3093 (b + s) (2 * s))
theorem mocodez_3095 (b s : Nat) : xall (fun _ a => xBm a) 1 b s codez_3095 := And.intro mobz_899 mobz_no
theorem mocodez_3096 (b s : Nat) : xall (fun _ a => xBm a) 1 b s codez_3096 := And.intro mobz_1923 mobz_no
theorem mocodez_3097 (b s : Nat) : xall (fun _ a => xBm a) 2 b s codez_3097 := And.intro (mocodez_3095 b (2 * s)) (mocodez_3096 (b + s) (2 * s))
theorem mocodez_3098 (b s : Nat) : xall (fun _ a => xBm a) 3 b s codez_3098 := And.intro (mocodez_3094 b (2 * s)) (mocodez_3097 (b + s) (2 * s))
theorem mocodez_3099 (b s : Nat) : xall (fun _ a => xBm a) 4 b s codez_3099 := And.intro (mocodez_3091 b (2 * s)) (mocodez_3098 (b + s) (2 * s))
theorem mocodez_3100 (b s : Nat) : xall (fun _ a => xBm a) 5 b s codez_3100 := And.intro (mocodez_3084 b (2 * s)) (mocodez_3099 (b + s) (2 * s))
theorem mocodez_3101 (b s : Nat) : xall (fun _ a => xBm a) 1 b s codez_3101 := And.intro mobz_67 mobz_2115
theorem mocodez_3102 (b s : Nat) : xall (fun _ a => xBm a) 1 b s codez_3102 := And.intro mobz_1091 mobz_no
theorem mocodez_3103 (b s : Nat) : xall (fun _ a => xBm a) 2 b s codez_3103 := And.intro (mocodez_3101 b (2 * s)) (mocodez_3102 (b + s) (2 * s))
theorem mocodez_3104 (b s : Nat) : xall (fun _ a => xBm a) 1 b s codez_3104 := And.intro mobz_579 mobz_no
theorem mocodez_3105 (b s : Nat) : xall (fun _ a => xBm a) 1 b s codez_3105 := And.intro mobz_1603 mobz_no
theorem mocodez_3106 (b s : Nat) : xall (fun _ a => xBm a) 2 b s codez_3106 := And.intro (mocodez_3104 b (2 * s)) (mocodez_3105 (b + s) (2 * s))
theorem mocodez_3107 (b s : Nat) : xall (fun _ a => xBm a) 3 b s codez_3107 := And.intro (mocodez_3103 b (2 * s)) (mocodez_3106 (b + s) (2 * s))
theorem mocodez_3108 (b s : Nat) : xall (fun _ a => xBm a) 1 b s codez_3108 := And.intro mobz_323 mobz_2371
theorem mocodez_3109 (b s : Nat) : xall (fun _ a => xBm a) 1 b s codez_3109 := And.intro mobz_1347 mobz_no
theorem mocodez_3110 (b s : Nat) : xall (fun _ a => xBm a) 2 b s codez_3110 := And.intro (mocodez_3108 b (2 * s)) (mocodez_3109 (b + s) (2 * s))
theorem mocodez_3111 (b s : Nat) : xall (fun _ a => xBm a) 1 b s codez_3111 := And.intro mobz_835 mobz_no
theorem mocodez_3112 (b s : Nat) : xall (fun _ a => xBm a) 1 b s codez_3112 := And.intro mobz_1859 mobz_no
theorem mocodez_3113 (b s : Nat) : xall (fun _ a => xBm a) 2 b s codez_3113 := And.intro (mocodez_3111 b (2 * s)) (mocodez_3112 (b + s) (2 * s))
theorem mocodez_3114 (b s : Nat) : xall (fun _ a => xBm a) 3 b s codez_3114 := And.intro (mocodez_3110 b (2 * s)) (mocodez_3113 (b + s) (2 * s))
theorem mocodez_3115 (b s : Nat) : xall (fun _ a => xBm a) 4 b s codez_3115 := And.intro (mocodez_3107 b (2 * s)) (mocodez_3114 (b + s) (2 * s))
theorem mocodez_3116 (b s : Nat) : xall (fun _ a => xBm a) 1 b s codez_3116 := And.intro mobz_195 mobz_2243
theorem mocodez_3117 (b s : Nat) : xall (fun _ a => xBm a) 1 b s codez_3117 := And.intro mobz_1219 mobz_no
theorem mocodez_3118 (b s : Nat) : xall (fun _ a => xBm a) 2 b s codez_3118 := And.intro (mocodez_3116 b (2 * s)) (mocodez_3117 (b + s) (2 * s))
theorem mocodez_3119 (b s : Nat) : xall (fun _ a => xBm a) 1 b s codez_3119 := And.intro mobz_707 mobz_no
theorem mocodez_3120 (b s : Nat) : xall (fun _ a => xBm a) 1 b s codez_3120 := And.intro mobz_1731 mobz_no
theorem mocodez_3121 (b s : Nat) : xall (fun _ a => xBm a) 2 b s codez_3121 := And.intro (mocodez_3119 b (2 * s)) (mocodez_3120 (b + s) (2 * s))
theorem mocodez_3122 (b s : Nat) : xall (fun _ a => xBm a) 3 b s codez_3122 := And.intro (mocodez_3118 b (2 * s)) (mocodez_3121 (b + s) (2 * s))
theorem mocodez_3123 (b s : Nat) : xall (fun _ a => xBm a) 1 b s codez_3123 := And.intro mobz_451 mobz_2499
theorem mocodez_3124 (b s : Nat) : xall (fun _ a => xBm a) 1 b s codez_3124 := And.intro mobz_1475 mobz_no
theorem mocodez_3125 (b s : Nat) : xall (fun _ a => xBm a) 2 b s codez_3125 := And.intro (mocodez_3123 b (2 * s)) (mocodez_3124 (b + s) (2 * s))
theorem mocodez_3126 (b s : Nat) : xall (fun _ a => xBm a) 1 b s codez_3126 := And.intro mobz_963 mobz_no
theorem mocodez_3127 (b s : Nat) : xall (fun _ a => xBm a) 1 b s codez_3127 := And.intro mobz_1987 mobz_no
theorem mocodez_3128 (b s : Nat) : xall (fun _ a => xBm a) 2 b s codez_3128 := And.intro (mocodez_3126 b (2 * s)) (mocodez_3127 (b + s) (2 * s))
theorem mocodez_3129 (b s : Nat) : xall (fun _ a => xBm a) 3 b s codez_3129 := And.intro (mocodez_3125 b (2 * s)) (mocodez_3128 (b + s) (2 * s))
theorem mocodez_3130 (b s : Nat) : xall (fun _ a => xBm a) 4 b s codez_3130 := And.intro (mocodez_3122 b (2 * s)) (mocodez_3129 (b + s) (2 * s))
theorem mocodez_3131 (b s : Nat) : xall (fun _ a => xBm a) 5 b s codez_3131 := And.intro (mocodez_3115 b (2 * s)) (mocodez_3130 (b + s) (2 * s))
theorem mocodez_3132 (b s : Nat) : xall (fun _ a => xBm a) 6 b s codez_3132 := And.intro (mocodez_3100 b (2 * s)) (mocodez_3131 (b + s) (2 * s))
theorem mocodez_3133 (b s : Nat) : xall (fun _ a => xBm a) 1 b s codez_3133 := And.intro mobz_35 mobz_2083
theorem mocodez_3134 (b s : Nat) : xall (fun _ a => xBm a) 1 b s codez_3134 := And.intro mobz_1059 mobz_no
theorem mocodez_3135 (b s : Nat) : xall (fun _ a => xBm a) 2 b s codez_3135 := And.intro (mocodez_3133 b (2 * s)) (mocodez_3134 (b + s) (2 * s))
theorem mocodez_3136 (b s : Nat) : xall (fun _ a => xBm a) 1 b s codez_3136 := And.intro mobz_547 mobz_no
theorem mocodez_3137 (b s : Nat) : xall (fun _ a => xBm a) 1 b s codez_3137 := And.intro mobz_1571 mobz_no
theorem mocodez_3138 (b s : Nat) : xall (fun _ a => xBm a) 2 b s codez_3138 := And.intro (mocodez_3136 b (2 * s)) (mocodez_3137 (b + s) (2 * s))
theorem mocodez_3139 (b s : Nat) : xall (fun _ a => xBm a) 3 b s codez_3139 := And.intro (mocodez_3135 b (2 * s)) (mocodez_3138 (b + s) (2 * s))
theorem mocodez_3140 (b s : Nat) : xall (fun _ a => xBm a) 1 b s codez_3140 := And.intro mobz_291 mobz_2339
theorem mocodez_3141 (b s : Nat) : xall (fun _ a => xBm a) 1 b s codez_3141 := And.intro mobz_1315 mobz_no
theorem mocodez_3142 (b s : Nat) : xall (fun _ a => xBm a) 2 b s codez_3142 := And.intro (mocodez_3140 b (2 * s)) (mocodez_3141 (b + s) (2 * s))
theorem mocodez_3143 (b s : Nat) : xall (fun _ a => xBm a) 1 b s codez_3143 := And.intro mobz_803 mobz_no
theorem mocodez_3144 (b s : Nat) : xall (fun _ a => xBm a) 1 b s codez_3144 := And.intro mobz_1827 mobz_no
theorem mocodez_3145 (b s : Nat) : xall (fun _ a => xBm a) 2 b s codez_3145 := And.intro (mocodez_3143 b (2 * s)) (mocodez_3144 (b + s) (2 * s))
theorem mocodez_3146 (b s : Nat) : xall (fun _ a => xBm a) 3 b s codez_3146 := And.intro (mocodez_3142 b (2 * s)) (mocodez_3145 (b + s) (2 * s))
theorem mocodez_3147 (b s : Nat) : xall (fun _ a => xBm a) 4 b s codez_3147 := And.intro (mocodez_3139 b (2 * s)) (mocodez_3146 (b + s) (2 * s))
theorem mocodez_3148 (b s : Nat) : xall (fun _ a => xBm a) 1 b s codez_3148 := And.intro mobz_163 mobz_2211
theorem mocodez_3149 (b s : Nat) : xall (fun _ a => xBm a) 1 b s codez_3149 := And.intro mobz_1187 mobz_no
theorem mocodez_3150 (b s : Nat) : xall (fun _ a => xBm a) 2 b s codez_3150 := And.intro (mocodez_3148 b (2 * s)) (mocodez_3149 (b + s) (2 * s))
theorem mocodez_3151 (b s : Nat) : xall (fun _ a => xBm a) 1 b s codez_3151 := And.intro mobz_675 mobz_no
theorem mocodez_3152 (b s : Nat) : xall (fun _ a => xBm a) 1 b s codez_3152 := And.intro mobz_1699 mobz_no
theorem mocodez_3153 (b s : Nat) : xall (fun _ a => xBm a) 2 b s codez_3153 := And.intro (mocodez_3151 b (2 * s)) (mocodez_3152 (b + s) (2 * s))
theorem mocodez_3154 (b s : Nat) : xall (fun _ a => xBm a) 3 b s codez_3154 := And.intro (mocodez_3150 b (2 * s)) (mocodez_3153 (b + s) (2 * s))
theorem mocodez_3155 (b s : Nat) : xall (fun _ a => xBm a) 1 b s codez_3155 := And.intro mobz_419 mobz_2467
theorem mocodez_3156 (b s : Nat) : xall (fun _ a => xBm a) 1 b s codez_3156 := And.intro mobz_1443 mobz_no
theorem mocodez_3157 (b s : Nat) : xall (fun _ a => xBm a) 2 b s codez_3157 := And.intro (mocodez_3155 b (2 * s)) (mocodez_3156 (b + s) (2 * s))
theorem mocodez_3158 (b s : Nat) : xall (fun _ a => xBm a) 1 b s codez_3158 := And.intro mobz_931 mobz_no
theorem mocodez_3159 (b s : Nat) : xall (fun _ a => xBm a) 1 b s codez_3159 := And.intro mobz_1955 mobz_no
theorem mocodez_3160 (b s : Nat) : xall (fun _ a => xBm a) 2 b s codez_3160 := And.intro (mocodez_3158 b (2 * s)) (mocodez_3159 (b + s) (2 * s))
theorem mocodez_3161 (b s : Nat) : xall (fun _ a => xBm a) 3 b s codez_3161 := And.intro (mocodez_3157 b (2 * s)) (mocodez_3160 (b + s) (2 * s))
theorem mocodez_3162 (b s : Nat) : xall (fun _ a => xBm a) 4 b s codez_3162 := And.intro (mocodez_3154 b (2 * s)) (mocodez_3161 (b + s) (2 * s))
theorem mocodez_3163 (b s : Nat) : xall (fun _ a => xBm a) 5 b s codez_3163 := And.intro (mocodez_3147 b (2 * s)) (mocodez_3162 (b + s) (2 * s))
theorem mocodez_3164 (b s : Nat) : xall (fun _ a => xBm a) 1 b s codez_3164 := And.intro mobz_99 mobz_2147
theorem mocodez_3165 (b s : Nat) : xall (fun _ a => xBm a) 1 b s codez_3165 := And.intro mobz_1123 mobz_no
theorem mocodez_3166 (b s : Nat) : xall (fun _ a => xBm a) 2 b s codez_3166 := And.intro (mocodez_3164 b (2 * s)) (mocodez_3165 (b + s) (2 * s))
theorem mocodez_3167 (b s : Nat) : xall (fun _ a => xBm a) 1 b s codez_3167 := And.intro mobz_611 mobz_no
theorem mocodez_3168 (b s : Nat) : xall (fun _ a => xBm a) 1 b s codez_3168 := And.intro mobz_1635 mobz_no
theorem mocodez_3169 (b s : Nat) : xall (fun _ a => xBm a) 2 b s codez_3169 := And.intro (mocodez_3167 b (2 * s)) (mocodez_3168 (b + s) (2 * s))
theorem mocodez_3170 (b s : Nat) : xall (fun _ a => xBm a) 3 b s codez_3170 := And.intro (mocodez_3166 b (2 * s)) (mocodez_3169 (b + s) (2 * s))
theorem mocodez_3171 (b s : Nat) : xall (fun _ a => xBm a) 1 b s codez_3171 := And.intro mobz_355 mobz_2403
theorem mocodez_3172 (b s : Nat) : xall (fun _ a => xBm a) 1 b s codez_3172 := And.intro mobz_1379 mobz_no
theorem mocodez_3173 (b s : Nat) : xall (fun _ a => xBm a) 2 b s codez_3173 := And.intro (mocodez_3171 b (2 * s)) (mocodez_3172 (b + s) (2 * s))
theorem mocodez_3174 (b s : Nat) : xall (fun _ a => xBm a) 1 b s codez_3174 := And.intro mobz_867 mobz_no
theorem mocodez_3175 (b s : Nat) : xall (fun _ a => xBm a) 1 b s codez_3175 := And.intro mobz_1891 mobz_no
theorem mocodez_3176 (b s : Nat) : xall (fun _ a => xBm a) 2 b s codez_3176 := And.intro (mocodez_3174 b (2 * s)) (mocodez_3175 (b + s) (2 * s))
theorem mocodez_3177 (b s : Nat) : xall (fun _ a => xBm a) 3 b s codez_3177 := And.intro (mocodez_3173 b (2 * s)) (mocodez_3176 (b + s) (2 * s))
theorem mocodez_3178 (b s : Nat) : xall (fun _ a => xBm a) 4 b s codez_3178 := And.intro (mocodez_3170 b (2 * s)) (mocodez_3177 (b + s) (2 * s))
theorem mocodez_3179 (b s : Nat) : xall (fun _ a => xBm a) 1 b s codez_3179 := And.intro mobz_227 mobz_2275
theorem mocodez_3180 (b s : Nat) : xall (fun _ a => xBm a) 1 b s codez_3180 := And.intro mobz_1251 mobz_no
theorem mocodez_3181 (b s : Nat) : xall (fun _ a => xBm a) 2 b s codez_3181 := And.intro (mocodez_3179 b (2 * s)) (mocodez_3180 (b + s) (2 * s))
theorem mocodez_3182 (b s : Nat) : xall (fun _ a => xBm a) 1 b s codez_3182 := And.intro mobz_739 mobz_no
theorem mocodez_3183 (b s : Nat) : xall (fun _ a => xBm a) 1 b s codez_3183 := And.intro mobz_1763 mobz_no
theorem mocodez_3184 (b s : Nat) : xall (fun _ a => xBm a) 2 b s codez_3184 := And.intro (mocodez_3182 b (2 * s)) (mocodez_3183 (b + s) (2 * s))
theorem mocodez_3185 (b s : Nat) : xall (fun _ a => xBm a) 3 b s codez_3185 := And.intro (mocodez_3181 b (2 * s)) (mocodez_3184 (b + s) (2 * s))
theorem mocodez_3186 (b s : Nat) : xall (fun _ a => xBm a) 1 b s codez_3186 := And.intro mobz_483 mobz_2531
theorem mocodez_3187 (b s : Nat) : xall (fun _ a => xBm a) 1 b s codez_3187 := And.intro mobz_1507 mobz_no
theorem mocodez_3188 (b s : Nat) : xall (fun _ a => xBm a) 2 b s codez_3188 := And.intro (mocodez_3186 b (2 * s)) (mocodez_3187 (b + s) (2 * s))
theorem mocodez_3189 (b s : Nat) : xall (fun _ a => xBm a) 1 b s codez_3189 := And.intro mobz_995 mobz_no
theorem mocodez_3190 (b s : Nat) : xall (fun _ a => xBm a) 1 b s codez_3190 := And.intro mobz_2019 mobz_no
theorem mocodez_3191 (b s : Nat) : xall (fun _ a => xBm a) 2 b s codez_3191 := And.intro (mocodez_3189 b (2 * s)) (mocodez_3190 (b + s) (2 * s))
theorem mocodez_3192 (b s : Nat) : xall (fun _ a => xBm a) 3 b s codez_3192 := And.intro (mocodez_3188 b (2 * s)) (mocodez_3191 (b + s) (2 * s))
theorem mocodez_3193 (b s : Nat) : xall (fun _ a => xBm a) 4 b s codez_3193 := And.intro (mocodez_3185 b (2 * s)) (mocodez_3192 (b + s) (2 * s))
theorem mocodez_3194 (b s : Nat) : xall (fun _ a => xBm a) 5 b s codez_3194 := And.intro (mocodez_3178 b (2 * s)) (mocodez_3193 (b + s) (2 * s))
theorem mocodez_3195 (b s : Nat) : xall (fun _ a => xBm a) 6 b s codez_3195 := And.intro (mocodez_3163 b (2 * s)) (mocodez_3194 (b + s) (2 * s))
theorem mocodez_3196 (b s : Nat) : xall (fun _ a => xBm a) 7 b s codez_3196 := And.intro (mocodez_3132 b (2 * s)) (mocodez_3195 (b + s) (2 * s))
theorem mocodez_3197 (b s : Nat) : xall (fun _ a => xBm a) 1 b s codez_3197 := And.intro mobz_19 mobz_2067
theorem mocodez_3198 (b s : Nat) : xall (fun _ a => xBm a) 1 b s codez_3198 := And.intro mobz_1043 mobz_no
theorem mocodez_3199 (b s : Nat) : xall (fun _ a => xBm a) 2 b s codez_3199 := And.intro (mocodez_3197 b (2 * s)) (mocodez_3198 (b + s) (2 * s))
theorem mocodez_3200 (b s : Nat) : xall (fun _ a => xBm a) 1 b s codez_3200 := And.intro mobz_531 mobz_no
theorem mocodez_3201 (b s : Nat) : xall (fun _ a => xBm a) 1 b s codez_3201 := And.intro mobz_1555 mobz_no
theorem mocodez_3202 (b s : Nat) : xall (fun _ a => xBm a) 2 b s codez_3202 := And.intro (mocodez_3200 b (2 * s)) (mocodez_3201 (b + s) (2 * s))
theorem mocodez_3203 (b s : Nat) : xall (fun _ a => xBm a) 3 b s codez_3203 := And.intro (mocodez_3199 b (2 * s)) (mocodez_3202 (b + s) (2 * s))
theorem mocodez_3204 (b s : Nat) : xall (fun _ a => xBm a) 1 b s codez_3204 := And.intro mobz_275 mobz_2323
theorem mocodez_3205 (b s : Nat) : xall (fun _ a => xBm a) 1 b s codez_3205 := And.intro mobz_1299 mobz_no
theorem mocodez_3206 (b s : Nat) : xall (fun _ a => xBm a) 2 b s codez_3206 := And.intro (mocodez_3204 b (2 * s)) (mocodez_3205 (b + s) (2 * s))
theorem mocodez_3207 (b s : Nat) : xall (fun _ a => xBm a) 1 b s codez_3207 := And.intro mobz_787 mobz_no
theorem mocodez_3208 (b s : Nat) : xall (fun _ a => xBm a) 1 b s codez_3208 := And.intro mobz_1811 mobz_no
theorem mocodez_3209 (b s : Nat) : xall (fun _ a => xBm a) 2 b s codez_3209 := And.intro (mocodez_3207 b (2 * s)) (mocodez_3208 (b + s) (2 * s))
theorem mocodez_3210 (b s : Nat) : xall (fun _ a => xBm a) 3 b s codez_3210 := And.intro (mocodez_3206 b (2 * s)) (mocodez_3209 (b + s) (2 * s))
theorem mocodez_3211 (b s : Nat) : xall (fun _ a => xBm a) 4 b s codez_3211 := And.intro (mocodez_3203 b (2 * s)) (mocodez_3210 (b + s) (2 * s))
theorem mocodez_3212 (b s : Nat) : xall (fun _ a => xBm a) 1 b s codez_3212 := And.intro mobz_147 mobz_2195
theorem mocodez_3213 (b s : Nat) : xall (fun _ a => xBm a) 1 b s codez_3213 := And.intro mobz_1171 mobz_no
theorem mocodez_3214 (b s : Nat) : xall (fun _ a => xBm a) 2 b s codez_3214 := And.intro (mocodez_3212 b (2 * s)) (mocodez_3213 (b + s) (2 * s))
theorem mocodez_3215 (b s : Nat) : xall (fun _ a => xBm a) 1 b s codez_3215 := And.intro mobz_659 mobz_no
theorem mocodez_3216 (b s : Nat) : xall (fun _ a => xBm a) 1 b s codez_3216 := And.intro mobz_1683 mobz_no
theorem mocodez_3217 (b s : Nat) : xall (fun _ a => xBm a) 2 b s codez_3217 := And.intro (mocodez_3215 b (2 * s)) (mocodez_3216 (b + s) (2 * s))
theorem mocodez_3218 (b s : Nat) : xall (fun _ a => xBm a) 3 b s codez_3218 := And.intro (mocodez_3214 b (2 * s)) (mocodez_3217 (b + s) (2 * s))
theorem mocodez_3219 (b s : Nat) : xall (fun _ a => xBm a) 1 b s codez_3219 := And.intro mobz_403 mobz_2451
theorem mocodez_3220 (b s : Nat) : xall (fun _ a => xBm a) 1 b s codez_3220 := And.intro mobz_1427 mobz_no
theorem mocodez_3221 (b s : Nat) : xall (fun _ a => xBm a) 2 b s codez_3221 := And.intro (mocodez_3219 b (2 * s)) (mocodez_3220 (b + s) (2 * s))
theorem mocodez_3222 (b s : Nat) : xall (fun _ a => xBm a) 1 b s codez_3222 := And.intro mobz_915 mobz_no
theorem mocodez_3223 (b s : Nat) : xall (fun _ a => xBm a) 1 b s codez_3223 := And.intro mobz_1939 mobz_no
theorem mocodez_3224 (b s : Nat) : xall (fun _ a => xBm a) 2 b s codez_3224 := And.intro (mocodez_3222 b (2 * s)) (mocodez_3223 (b + s) (2 * s))
theorem mocodez_3225 (b s : Nat) : xall (fun _ a => xBm a) 3 b s codez_3225 := And.intro (mocodez_3221 b (2 * s)) (mocodez_3224 (b + s) (2 * s))
theorem mocodez_3226 (b s : Nat) : xall (fun _ a => xBm a) 4 b s codez_3226 := And.intro (mocodez_3218 b (2 * s)) (mocodez_3225 (b + s) (2 * s))
theorem mocodez_3227 (b s : Nat) : xall (fun _ a => xBm a) 5 b s codez_3227 := And.intro (mocodez_3211 b (2 * s)) (mocodez_3226 (b + s) (2 * s))
theorem mocodez_3228 (b s : Nat) : xall (fun _ a => xBm a) 1 b s codez_3228 := And.intro mobz_83 mobz_2131
theorem mocodez_3229 (b s : Nat) : xall (fun _ a => xBm a) 1 b s codez_3229 := And.intro mobz_1107 mobz_no
theorem mocodez_3230 (b s : Nat) : xall (fun _ a => xBm a) 2 b s codez_3230 := And.intro (mocodez_3228 b (2 * s)) (mocodez_3229 (b + s) (2 * s))
theorem mocodez_3231 (b s : Nat) : xall (fun _ a => xBm a) 1 b s codez_3231 := And.intro mobz_595 mobz_no
theorem mocodez_3232 (b s : Nat) : xall (fun _ a => xBm a) 1 b s codez_3232 := And.intro mobz_1619 mobz_no
theorem mocodez_3233 (b s : Nat) : xall (fun _ a => xBm a) 2 b s codez_3233 := And.intro (mocodez_3231 b (2 * s)) (mocodez_3232 (b + s) (2 * s))
theorem mocodez_3234 (b s : Nat) : xall (fun _ a => xBm a) 3 b s codez_3234 := And.intro (mocodez_3230 b (2 * s)) (mocodez_3233 (b + s) (2 * s))
theorem mocodez_3235 (b s : Nat) : xall (fun _ a => xBm a) 1 b s codez_3235 := And.intro mobz_339 mobz_2387
theorem mocodez_3236 (b s : Nat) : xall (fun _ a => xBm a) 1 b s codez_3236 := And.intro mobz_1363 mobz_no
theorem mocodez_3237 (b s : Nat) : xall (fun _ a => xBm a) 2 b s codez_3237 := And.intro (mocodez_3235 b (2 * s)) (mocodez_3236 (b + s) (2 * s))
theorem mocodez_3238 (b s : Nat) : xall (fun _ a => xBm a) 1 b s codez_3238 := And.intro mobz_851 mobz_no
theorem mocodez_3239 (b s : Nat) : xall (fun _ a => xBm a) 1 b s codez_3239 := And.intro mobz_1875 mobz_no
theorem mocodez_3240 (b s : Nat) : xall (fun _ a => xBm a) 2 b s codez_3240 := And.intro (mocodez_3238 b (2 * s)) (mocodez_3239 (b + s) (2 * s))
theorem mocodez_3241 (b s : Nat) : xall (fun _ a => xBm a) 3 b s codez_3241 := And.intro (mocodez_3237 b (2 * s)) (mocodez_3240 (b + s) (2 * s))
theorem mocodez_3242 (b s : Nat) : xall (fun _ a => xBm a) 4 b s codez_3242 := And.intro (mocodez_3234 b (2 * s)) (mocodez_3241 (b + s) (2 * s))
theorem mocodez_3243 (b s : Nat) : xall (fun _ a => xBm a) 1 b s codez_3243 := And.intro mobz_211 mobz_2259
theorem mocodez_3244 (b s : Nat) : xall (fun _ a => xBm a) 1 b s codez_3244 := And.intro mobz_1235 mobz_no
theorem mocodez_3245 (b s : Nat) : xall (fun _ a => xBm a) 2 b s codez_3245 := And.intro (mocodez_3243 b (2 * s)) (mocodez_3244 (b + s) (2 * s))
theorem mocodez_3246 (b s : Nat) : xall (fun _ a => xBm a) 1 b s codez_3246 := And.intro mobz_723 mobz_no
theorem mocodez_3247 (b s : Nat) : xall (fun _ a => xBm a) 1 b s codez_3247 := And.intro mobz_1747 mobz_no
theorem mocodez_3248 (b s : Nat) : xall (fun _ a => xBm a) 2 b s codez_3248 := And.intro (mocodez_3246 b (2 * s)) (mocodez_3247 (b + s) (2 * s))
theorem mocodez_3249 (b s : Nat) : xall (fun _ a => xBm a) 3 b s codez_3249 := And.intro (mocodez_3245 b (2 * s)) (mocodez_3248 (b + s) (2 * s))
theorem mocodez_3250 (b s : Nat) : xall (fun _ a => xBm a) 1 b s codez_3250 := And.intro mobz_467 mobz_2515
theorem mocodez_3251 (b s : Nat) : xall (fun _ a => xBm a) 1 b s codez_3251 := And.intro mobz_1491 mobz_no
theorem mocodez_3252 (b s : Nat) : xall (fun _ a => xBm a) 2 b s codez_3252 := And.intro (mocodez_3250 b (2 * s)) (mocodez_3251 (b + s) (2 * s))
theorem mocodez_3253 (b s : Nat) : xall (fun _ a => xBm a) 1 b s codez_3253 := And.intro mobz_979 mobz_no
theorem mocodez_3254 (b s : Nat) : xall (fun _ a => xBm a) 1 b s codez_3254 := And.intro mobz_2003 mobz_no
theorem mocodez_3255 (b s : Nat) : xall (fun _ a => xBm a) 2 b s codez_3255 := And.intro (mocodez_3253 b (2 * s)) (mocodez_3254 (b + s) (2 * s))
theorem mocodez_3256 (b s : Nat) : xall (fun _ a => xBm a) 3 b s codez_3256 := And.intro (mocodez_3252 b (2 * s)) (mocodez_3255 (b + s) (2 * s))
theorem mocodez_3257 (b s : Nat) : xall (fun _ a => xBm a) 4 b s codez_3257 := And.intro (mocodez_3249 b (2 * s)) (mocodez_3256 (b + s) (2 * s))
theorem mocodez_3258 (b s : Nat) : xall (fun _ a => xBm a) 5 b s codez_3258 := And.intro (mocodez_3242 b (2 * s)) (mocodez_3257 (b + s) (2 * s))
theorem mocodez_3259 (b s : Nat) : xall (fun _ a => xBm a) 6 b s codez_3259 := And.intro (mocodez_3227 b (2 * s)) (mocodez_3258 (b + s) (2 * s))
theorem mocodez_3260 (b s : Nat) : xall (fun _ a => xBm a) 1 b s codez_3260 := And.intro mobz_51 mobz_2099
theorem mocodez_3261 (b s : Nat) : xall (fun _ a => xBm a) 1 b s codez_3261 := And.intro mobz_1075 mobz_no
theorem mocodez_3262 (b s : Nat) : xall (fun _ a => xBm a) 2 b s codez_3262 := And.intro (mocodez_3260 b (2 * s)) (mocodez_3261 (b + s) (2 * s))
theorem mocodez_3263 (b s : Nat) : xall (fun _ a => xBm a) 1 b s codez_3263 := And.intro mobz_563 mobz_no
theorem mocodez_3264 (b s : Nat) : xall (fun _ a => xBm a) 1 b s codez_3264 := And.intro mobz_1587 mobz_no
theorem mocodez_3265 (b s : Nat) : xall (fun _ a => xBm a) 2 b s codez_3265 := And.intro (mocodez_3263 b (2 * s)) (mocodez_3264 (b + s) (2 * s))
theorem mocodez_3266 (b s : Nat) : xall (fun _ a => xBm a) 3 b s codez_3266 := And.intro (mocodez_3262 b (2 * s)) (mocodez_3265 (b + s) (2 * s))
theorem mocodez_3267 (b s : Nat) : xall (fun _ a => xBm a) 1 b s codez_3267 := And.intro mobz_307 mobz_2355
theorem mocodez_3268 (b s : Nat) : xall (fun _ a => xBm a) 1 b s codez_3268 := And.intro mobz_1331 mobz_no
theorem mocodez_3269 (b s : Nat) : xall (fun _ a => xBm a) 2 b s codez_3269 := And.intro (mocodez_3267 b (2 * s)) (mocodez_3268 (b + s) (2 * s))
theorem mocodez_3270 (b s : Nat) : xall (fun _ a => xBm a) 1 b s codez_3270 := And.intro mobz_819 mobz_no
theorem mocodez_3271 (b s : Nat) : xall (fun _ a => xBm a) 1 b s codez_3271 := And.intro mobz_1843 mobz_no
theorem mocodez_3272 (b s : Nat) : xall (fun _ a => xBm a) 2 b s codez_3272 := And.intro (mocodez_3270 b (2 * s)) (mocodez_3271 (b + s) (2 * s))
theorem mocodez_3273 (b s : Nat) : xall (fun _ a => xBm a) 3 b s codez_3273 := And.intro (mocodez_3269 b (2 * s)) (mocodez_3272 (b + s) (2 * s))
theorem mocodez_3274 (b s : Nat) : xall (fun _ a => xBm a) 4 b s codez_3274 := And.intro (mocodez_3266 b (2 * s)) (mocodez_3273 (b + s) (2 * s))
theorem mocodez_3275 (b s : Nat) : xall (fun _ a => xBm a) 1 b s codez_3275 := And.intro mobz_179 mobz_2227
theorem mocodez_3276 (b s : Nat) : xall (fun _ a => xBm a) 1 b s codez_3276 := And.intro mobz_1203 mobz_no
theorem mocodez_3277 (b s : Nat) : xall (fun _ a => xBm a) 2 b s codez_3277 := And.intro (mocodez_3275 b (2 * s)) (mocodez_3276 (b + s) (2 * s))
theorem mocodez_3278 (b s : Nat) : xall (fun _ a => xBm a) 1 b s codez_3278 := And.intro mobz_691 mobz_no
theorem mocodez_3279 (b s : Nat) : xall (fun _ a => xBm a) 1 b s codez_3279 := And.intro mobz_1715 mobz_no
theorem mocodez_3280 (b s : Nat) : xall (fun _ a => xBm a) 2 b s codez_3280 := And.intro (mocodez_3278 b (2 * s)) (mocodez_3279 (b + s) (2 * s))
theorem mocodez_3281 (b s : Nat) : xall (fun _ a => xBm a) 3 b s codez_3281 := And.intro (mocodez_3277 b (2 * s)) (mocodez_3280 (b + s) (2 * s))
theorem mocodez_3282 (b s : Nat) : xall (fun _ a => xBm a) 1 b s codez_3282 := And.intro mobz_435 mobz_2483
theorem mocodez_3283 (b s : Nat) : xall (fun _ a => xBm a) 1 b s codez_3283 := And.intro mobz_1459 mobz_no
theorem mocodez_3284 (b s : Nat) : xall (fun _ a => xBm a) 2 b s codez_3284 := And.intro (mocodez_3282 b (2 * s)) (mocodez_3283 (b + s) (2 * s))
theorem mocodez_3285 (b s : Nat) : xall (fun _ a => xBm a) 1 b s codez_3285 := And.intro mobz_947 mobz_no
theorem mocodez_3286 (b s : Nat) : xall (fun _ a => xBm a) 1 b s codez_3286 := And.intro mobz_1971 mobz_no
theorem mocodez_3287 (b s : Nat) : xall (fun _ a => xBm a) 2 b s codez_3287 := And.intro (mocodez_3285 b (2 * s)) (mocodez_3286 (b + s) (2 * s))
theorem mocodez_3288 (b s : Nat) : xall (fun _ a => xBm a) 3 b s codez_3288 := And.intro (mocodez_3284 b (2 * s)) (mocodez_3287 (b + s) (2 * s))
theorem mocodez_3289 (b s : Nat) : xall (fun _ a => xBm a) 4 b s codez_3289 := And.intro (mocodez_3281 b (2 * s)) (mocodez_3288 (b + s) (2 * s))
theorem mocodez_3290 (b s : Nat) : xall (fun _ a => xBm a) 5 b s codez_3290 := And.intro (mocodez_3274 b (2 * s)) (mocodez_3289 (b + s) (2 * s))
theorem mocodez_3291 (b s : Nat) : xall (fun _ a => xBm a) 1 b s codez_3291 := And.intro mobz_115 mobz_2163
theorem mocodez_3292 (b s : Nat) : xall (fun _ a => xBm a) 1 b s codez_3292 := And.intro mobz_1139 mobz_no
theorem mocodez_3293 (b s : Nat) : xall (fun _ a => xBm a) 2 b s codez_3293 := And.intro (mocodez_3291 b (2 * s)) (mocodez_3292 (b + s) (2 * s))
theorem mocodez_3294 (b s : Nat) : xall (fun _ a => xBm a) 1 b s codez_3294 := And.intro mobz_627 mobz_no
theorem mocodez_3295 (b s : Nat) : xall (fun _ a => xBm a) 1 b s codez_3295 := And.intro mobz_1651 mobz_no
theorem mocodez_3296 (b s : Nat) : xall (fun _ a => xBm a) 2 b s codez_3296 := And.intro (mocodez_3294 b (2 * s)) (mocodez_3295 (b + s) (2 * s))
theorem mocodez_3297 (b s : Nat) : xall (fun _ a => xBm a) 3 b s codez_3297 := And.intro (mocodez_3293 b (2 * s)) (mocodez_3296 (b + s) (2 * s))
theorem mocodez_3298 (b s : Nat) : xall (fun _ a => xBm a) 1 b s codez_3298 := And.intro mobz_371 mobz_2419
theorem mocodez_3299 (b s : Nat) : xall (fun _ a => xBm a) 1 b s codez_3299 := And.intro mobz_1395 mobz_no
theorem mocodez_3300 (b s : Nat) : xall (fun _ a => xBm a) 2 b s codez_3300 := And.intro (mocodez_3298 b (2 * s)) (mocodez_3299 (b + s) (2 * s))
theorem mocodez_3301 (b s : Nat) : xall (fun _ a => xBm a) 1 b s codez_3301 := And.intro mobz_883 mobz_no
theorem mocodez_3302 (b s : Nat) : xall (fun _ a => xBm a) 1 b s codez_3302 := And.intro mobz_1907 mobz_no
theorem mocodez_3303 (b s : Nat) : xall (fun _ a => xBm a) 2 b s codez_3303 := And.intro (mocodez_3301 b (2 * s)) (mocodez_3302 (b + s) (2 * s))
theorem mocodez_3304 (b s : Nat) : xall (fun _ a => xBm a) 3 b s codez_3304 := And.intro (mocodez_3300 b (2 * s)) (mocodez_3303 (b + s) (2 * s))
theorem mocodez_3305 (b s : Nat) : xall (fun _ a => xBm a) 4 b s codez_3305 := And.intro (mocodez_3297 b (2 * s)) (mocodez_3304 (b + s) (2 * s))
theorem mocodez_3306 (b s : Nat) : xall (fun _ a => xBm a) 1 b s codez_3306 := And.intro mobz_243 mobz_2291
theorem mocodez_3307 (b s : Nat) : xall (fun _ a => xBm a) 1 b s codez_3307 := And.intro mobz_1267 mobz_no
theorem mocodez_3308 (b s : Nat) : xall (fun _ a => xBm a) 2 b s codez_3308 := And.intro (mocodez_3306 b (2 * s)) (mocodez_3307 (b + s) (2 * s))
theorem mocodez_3309 (b s : Nat) : xall (fun _ a => xBm a) 1 b s codez_3309 := And.intro mobz_755 mobz_no
theorem mocodez_3310 (b s : Nat) : xall (fun _ a => xBm a) 1 b s codez_3310 := And.intro mobz_1779 mobz_no
theorem mocodez_3311 (b s : Nat) : xall (fun _ a => xBm a) 2 b s codez_3311 := And.intro (mocodez_3309 b (2 * s)) (mocodez_3310 (b + s) (2 * s))
theorem mocodez_3312 (b s : Nat) : xall (fun _ a => xBm a) 3 b s codez_3312 := And.intro (mocodez_3308 b (2 * s)) (mocodez_3311 (b + s) (2 * s))
theorem mocodez_3313 (b s : Nat) : xall (fun _ a => xBm a) 1 b s codez_3313 := And.intro mobz_499 mobz_no
theorem mocodez_3314 (b s : Nat) : xall (fun _ a => xBm a) 1 b s codez_3314 := And.intro mobz_1523 mobz_no
theorem mocodez_3315 (b s : Nat) : xall (fun _ a => xBm a) 2 b s codez_3315 := And.intro (mocodez_3313 b (2 * s)) (mocodez_3314 (b + s) (2 * s))
theorem mocodez_3316 (b s : Nat) : xall (fun _ a => xBm a) 1 b s codez_3316 := And.intro mobz_1011 mobz_no
theorem mocodez_3317 (b s : Nat) : xall (fun _ a => xBm a) 1 b s codez_3317 := And.intro mobz_2035 mobz_no
theorem mocodez_3318 (b s : Nat) : xall (fun _ a => xBm a) 2 b s codez_3318 := And.intro (mocodez_3316 b (2 * s)) (mocodez_3317 (b + s) (2 * s))
theorem mocodez_3319 (b s : Nat) : xall (fun _ a => xBm a) 3 b s codez_3319 := And.intro (mocodez_3315 b (2 * s)) (mocodez_3318 (b + s) (2 * s))
theorem mocodez_3320 (b s : Nat) : xall (fun _ a => xBm a) 4 b s codez_3320 := And.intro (mocodez_3312 b (2 * s)) (mocodez_3319 (b + s) (2 * s))
theorem mocodez_3321 (b s : Nat) : xall (fun _ a => xBm a) 5 b s codez_3321 := And.intro (mocodez_3305 b (2 * s)) (mocodez_3320 (b + s) (2 * s))
theorem mocodez_3322 (b s : Nat) : xall (fun _ a => xBm a) 6 b s codez_3322 := And.intro (mocodez_3290 b (2 * s)) (mocodez_3321 (b + s) (2 * s))
theorem mocodez_3323 (b s : Nat) : xall (fun _ a => xBm a) 7 b s codez_3323 := And.intro (mocodez_3259 b (2 * s)) (mocodez_3322 (b + s) (2 * s))
theorem mocodez_3324 (b s : Nat) : xall (fun _ a => xBm a) 8 b s codez_3324 := And.intro (mocodez_3196 b (2 * s)) (mocodez_3323 (b + s) (2 * s))
theorem mocodez_3325 (b s : Nat) : xall (fun _ a => xBm a) 1 b s codez_3325 := And.intro mobz_11 mobz_2059
theorem mocodez_3326 (b s : Nat) : xall (fun _ a => xBm a) 1 b s codez_3326 := And.intro mobz_1035 mobz_no
theorem mocodez_3327 (b s : Nat) : xall (fun _ a => xBm a) 2 b s codez_3327 := And.intro (mocodez_3325 b (2 * s)) (mocodez_3326 (b + s) (2 * s))
theorem mocodez_3328 (b s : Nat) : xall (fun _ a => xBm a) 1 b s codez_3328 := And.intro mobz_523 mobz_no
theorem mocodez_3329 (b s : Nat) : xall (fun _ a => xBm a) 1 b s codez_3329 := And.intro mobz_1547 mobz_no
theorem mocodez_3330 (b s : Nat) : xall (fun _ a => xBm a) 2 b s codez_3330 := And.intro (mocodez_3328 b (2 * s)) (mocodez_3329 (b + s) (2 * s))
theorem mocodez_3331 (b s : Nat) : xall (fun _ a => xBm a) 3 b s codez_3331 := And.intro (mocodez_3327 b (2 * s)) (mocodez_3330 (b + s) (2 * s))
theorem mocodez_3332 (b s : Nat) : xall (fun _ a => xBm a) 1 b s codez_3332 := And.intro mobz_267 mobz_2315
theorem mocodez_3333 (b s : Nat) : xall (fun _ a => xBm a) 1 b s codez_3333 := And.intro mobz_1291 mobz_no
theorem mocodez_3334 (b s : Nat) : xall (fun _ a => xBm a) 2 b s codez_3334 := And.intro (mocodez_3332 b (2 * s)) (mocodez_3333 (b + s) (2 * s))
theorem mocodez_3335 (b s : Nat) : xall (fun _ a => xBm a) 1 b s codez_3335 := And.intro mobz_779 mobz_no
theorem mocodez_3336 (b s : Nat) : xall (fun _ a => xBm a) 1 b s codez_3336 := And.intro mobz_1803 mobz_no
theorem mocodez_3337 (b s : Nat) : xall (fun _ a => xBm a) 2 b s codez_3337 := And.intro (mocodez_3335 b (2 * s)) (mocodez_3336 (b + s) (2 * s))
theorem mocodez_3338 (b s : Nat) : xall (fun _ a => xBm a) 3 b s codez_3338 := And.intro (mocodez_3334 b (2 * s)) (mocodez_3337 (b + s) (2 * s))
theorem mocodez_3339 (b s : Nat) : xall (fun _ a => xBm a) 4 b s codez_3339 := And.intro (mocodez_3331 b (2 * s)) (mocodez_3338 (b + s) (2 * s))
theorem mocodez_3340 (b s : Nat) : xall (fun _ a => xBm a) 1 b s codez_3340 := And.intro mobz_139 mobz_2187
theorem mocodez_3341 (b s : Nat) : xall (fun _ a => xBm a) 1 b s codez_3341 := And.intro mobz_1163 mobz_no
theorem mocodez_3342 (b s : Nat) : xall (fun _ a => xBm a) 2 b s codez_3342 := And.intro (mocodez_3340 b (2 * s)) (mocodez_3341 (b + s) (2 * s))
theorem mocodez_3343 (b s : Nat) : xall (fun _ a => xBm a) 1 b s codez_3343 := And.intro mobz_651 mobz_no
theorem mocodez_3344 (b s : Nat) : xall (fun _ a => xBm a) 1 b s codez_3344 := And.intro mobz_1675 mobz_no
theorem mocodez_3345 (b s : Nat) : xall (fun _ a => xBm a) 2 b s codez_3345 := And.intro (mocodez_3343 b (2 * s)) (mocodez_3344 (b + s) (2 * s))
theorem mocodez_3346 (b s : Nat) : xall (fun _ a => xBm a) 3 b s codez_3346 := And.intro (mocodez_3342 b (2 * s)) (mocodez_3345 (b + s) (2 * s))
theorem mocodez_3347 (b s : Nat) : xall (fun _ a => xBm a) 1 b s codez_3347 := And.intro mobz_395 mobz_2443
theorem mocodez_3348 (b s : Nat) : xall (fun _ a => xBm a) 1 b s codez_3348 := And.intro mobz_1419 mobz_no
theorem mocodez_3349 (b s : Nat) : xall (fun _ a => xBm a) 2 b s codez_3349 := And.intro (mocodez_3347 b (2 * s)) (mocodez_3348 (b + s) (2 * s))
theorem mocodez_3350 (b s : Nat) : xall (fun _ a => xBm a) 1 b s codez_3350 := And.intro mobz_907 mobz_no
theorem mocodez_3351 (b s : Nat) : xall (fun _ a => xBm a) 1 b s codez_3351 := And.intro mobz_1931 mobz_no
theorem mocodez_3352 (b s : Nat) : xall (fun _ a => xBm a) 2 b s codez_3352 := And.intro (mocodez_3350 b (2 * s)) (mocodez_3351 (b + s) (2 * s))
theorem mocodez_3353 (b s : Nat) : xall (fun _ a => xBm a) 3 b s codez_3353 := And.intro (mocodez_3349 b (2 * s)) (mocodez_3352 (b + s) (2 * s))
theorem mocodez_3354 (b s : Nat) : xall (fun _ a => xBm a) 4 b s codez_3354 := And.intro (mocodez_3346 b (2 * s)) (mocodez_3353 (b + s) (2 * s))
theorem mocodez_3355 (b s : Nat) : xall (fun _ a => xBm a) 5 b s codez_3355 := And.intro (mocodez_3339 b (2 * s)) (mocodez_3354 (b + s) (2 * s))
theorem mocodez_3356 (b s : Nat) : xall (fun _ a => xBm a) 1 b s codez_3356 := And.intro mobz_75 mobz_2123
theorem mocodez_3357 (b s : Nat) : xall (fun _ a => xBm a) 1 b s codez_3357 := And.intro mobz_1099 mobz_no
theorem mocodez_3358 (b s : Nat) : xall (fun _ a => xBm a) 2 b s codez_3358 := And.intro (mocodez_3356 b (2 * s)) (mocodez_3357 (b + s) (2 * s))
theorem mocodez_3359 (b s : Nat) : xall (fun _ a => xBm a) 1 b s codez_3359 := And.intro mobz_587 mobz_no
theorem mocodez_3360 (b s : Nat) : xall (fun _ a => xBm a) 1 b s codez_3360 := And.intro mobz_1611 mobz_no
theorem mocodez_3361 (b s : Nat) : xall (fun _ a => xBm a) 2 b s codez_3361 := And.intro (mocodez_3359 b (2 * s)) (mocodez_3360 (b + s) (2 * s))
theorem mocodez_3362 (b s : Nat) : xall (fun _ a => xBm a) 3 b s codez_3362 := And.intro (mocodez_3358 b (2 * s)) (mocodez_3361 (b + s) (2 * s))
theorem mocodez_3363 (b s : Nat) : xall (fun _ a => xBm a) 1 b s codez_3363 := And.intro mobz_331 mobz_2379
theorem mocodez_3364 (b s : Nat) : xall (fun _ a => xBm a) 1 b s codez_3364 := And.intro mobz_1355 mobz_no
theorem mocodez_3365 (b s : Nat) : xall (fun _ a => xBm a) 2 b s codez_3365 := And.intro (mocodez_3363 b (2 * s)) (mocodez_3364 (b + s) (2 * s))
theorem mocodez_3366 (b s : Nat) : xall (fun _ a => xBm a) 1 b s codez_3366 := And.intro mobz_843 mobz_no
theorem mocodez_3367 (b s : Nat) : xall (fun _ a => xBm a) 1 b s codez_3367 := And.intro mobz_1867 mobz_no
theorem mocodez_3368 (b s : Nat) : xall (fun _ a => xBm a) 2 b s codez_3368 := And.intro (mocodez_3366 b (2 * s)) (mocodez_3367 (b + s) (2 * s))
theorem mocodez_3369 (b s : Nat) : xall (fun _ a => xBm a) 3 b s codez_3369 := And.intro (mocodez_3365 b (2 * s)) (mocodez_3368 (b + s) (2 * s))
theorem mocodez_3370 (b s : Nat) : xall (fun _ a => xBm a) 4 b s codez_3370 := And.intro (mocodez_3362 b (2 * s)) (mocodez_3369 (b + s) (2 * s))
theorem mocodez_3371 (b s : Nat) : xall (fun _ a => xBm a) 1 b s codez_3371 := And.intro mobz_203 mobz_2251
theorem mocodez_3372 (b s : Nat) : xall (fun _ a => xBm a) 1 b s codez_3372 := And.intro mobz_1227 mobz_no
theorem mocodez_3373 (b s : Nat) : xall (fun _ a => xBm a) 2 b s codez_3373 := And.intro (mocodez_3371 b (2 * s)) (mocodez_3372 (b + s) (2 * s))
theorem mocodez_3374 (b s : Nat) : xall (fun _ a => xBm a) 1 b s codez_3374 := And.intro mobz_715 mobz_no
theorem mocodez_3375 (b s : Nat) : xall (fun _ a => xBm a) 1 b s codez_3375 := And.intro mobz_1739 mobz_no
theorem mocodez_3376 (b s : Nat) : xall (fun _ a => xBm a) 2 b s codez_3376 := And.intro (mocodez_3374 b (2 * s)) (mocodez_3375 (b + s) (2 * s))
theorem mocodez_3377 (b s : Nat) : xall (fun _ a => xBm a) 3 b s codez_3377 := And.intro (mocodez_3373 b (2 * s)) (mocodez_3376 (b + s) (2 * s))
theorem mocodez_3378 (b s : Nat) : xall (fun _ a => xBm a) 1 b s codez_3378 := And.intro mobz_459 mobz_2507
theorem mocodez_3379 (b s : Nat) : xall (fun _ a => xBm a) 1 b s codez_3379 := And.intro mobz_1483 mobz_no
theorem mocodez_3380 (b s : Nat) : xall (fun _ a => xBm a) 2 b s codez_3380 := And.intro (mocodez_3378 b (2 * s)) (mocodez_3379 (b + s) (2 * s))
theorem mocodez_3381 (b s : Nat) : xall (fun _ a => xBm a) 1 b s codez_3381 := And.intro mobz_971 mobz_no
theorem mocodez_3382 (b s : Nat) : xall (fun _ a => xBm a) 1 b s codez_3382 := And.intro mobz_1995 mobz_no
theorem mocodez_3383 (b s : Nat) : xall (fun _ a => xBm a) 2 b s codez_3383 := And.intro (mocodez_3381 b (2 * s)) (mocodez_3382 (b + s) (2 * s))
theorem mocodez_3384 (b s : Nat) : xall (fun _ a => xBm a) 3 b s codez_3384 := And.intro (mocodez_3380 b (2 * s)) (mocodez_3383 (b + s) (2 * s))
theorem mocodez_3385 (b s : Nat) : xall (fun _ a => xBm a) 4 b s codez_3385 := And.intro (mocodez_3377 b (2 * s)) (mocodez_3384 (b + s) (2 * s))
theorem mocodez_3386 (b s : Nat) : xall (fun _ a => xBm a) 5 b s codez_3386 := And.intro (mocodez_3370 b (2 * s)) (mocodez_3385 (b + s) (2 * s))
theorem mocodez_3387 (b s : Nat) : xall (fun _ a => xBm a) 6 b s codez_3387 := And.intro (mocodez_3355 b (2 * s)) (mocodez_3386 (b + s) (2 * s))
theorem mocodez_3388 (b s : Nat) : xall (fun _ a => xBm a) 1 b s codez_3388 := And.intro mobz_43 mobz_2091
theorem mocodez_3389 (b s : Nat) : xall (fun _ a => xBm a) 1 b s codez_3389 := And.intro mobz_1067 mobz_no
theorem mocodez_3390 (b s : Nat) : xall (fun _ a => xBm a) 2 b s codez_3390 := And.intro (mocodez_3388 b (2 * s)) (mocodez_3389 (b + s) (2 * s))
theorem mocodez_3391 (b s : Nat) : xall (fun _ a => xBm a) 1 b s codez_3391 := And.intro mobz_555 mobz_no
theorem mocodez_3392 (b s : Nat) : xall (fun _ a => xBm a) 1 b s codez_3392 := And.intro mobz_1579 mobz_no
theorem mocodez_3393 (b s : Nat) : xall (fun _ a => xBm a) 2 b s codez_3393 := And.intro (mocodez_3391 b (2 * s)) (mocodez_3392 (b + s) (2 * s))
theorem mocodez_3394 (b s : Nat) : xall (fun _ a => xBm a) 3 b s codez_3394 := And.intro (mocodez_3390 b (2 * s)) (mocodez_3393 (b + s) (2 * s))
theorem mocodez_3395 (b s : Nat) : xall (fun _ a => xBm a) 1 b s codez_3395 := And.intro mobz_299 mobz_2347
theorem mocodez_3396 (b s : Nat) : xall (fun _ a => xBm a) 1 b s codez_3396 := And.intro mobz_1323 mobz_no
theorem mocodez_3397 (b s : Nat) : xall (fun _ a => xBm a) 2 b s codez_3397 := And.intro (mocodez_3395 b (2 * s)) (mocodez_3396 (b + s) (2 * s))
theorem mocodez_3398 (b s : Nat) : xall (fun _ a => xBm a) 1 b s codez_3398 := And.intro mobz_811 mobz_no
theorem mocodez_3399 (b s : Nat) : xall (fun _ a => xBm a) 1 b s codez_3399 := And.intro mobz_1835 mobz_no
theorem mocodez_3400 (b s : Nat) : xall (fun _ a => xBm a) 2 b s codez_3400 := And.intro (mocodez_3398 b (2 * s)) (mocodez_3399 (b + s) (2 * s))
theorem mocodez_3401 (b s : Nat) : xall (fun _ a => xBm a) 3 b s codez_3401 := And.intro (mocodez_3397 b (2 * s)) (mocodez_3400 (b + s) (2 * s))
theorem mocodez_3402 (b s : Nat) : xall (fun _ a => xBm a) 4 b s codez_3402 := And.intro (mocodez_3394 b (2 * s)) (mocodez_3401 (b + s) (2 * s))
theorem mocodez_3403 (b s : Nat) : xall (fun _ a => xBm a) 1 b s codez_3403 := And.intro mobz_171 mobz_2219
theorem mocodez_3404 (b s : Nat) : xall (fun _ a => xBm a) 1 b s codez_3404 := And.intro mobz_1195 mobz_no
theorem mocodez_3405 (b s : Nat) : xall (fun _ a => xBm a) 2 b s codez_3405 := And.intro (mocodez_3403 b (2 * s)) (mocodez_3404 (b + s) (2 * s))
theorem mocodez_3406 (b s : Nat) : xall (fun _ a => xBm a) 1 b s codez_3406 := And.intro mobz_683 mobz_no
theorem mocodez_3407 (b s : Nat) : xall (fun _ a => xBm a) 1 b s codez_3407 := And.intro mobz_1707 mobz_no
theorem mocodez_3408 (b s : Nat) : xall (fun _ a => xBm a) 2 b s codez_3408 := And.intro (mocodez_3406 b (2 * s)) (mocodez_3407 (b + s) (2 * s))
theorem mocodez_3409 (b s : Nat) : xall (fun _ a => xBm a) 3 b s codez_3409 := And.intro (mocodez_3405 b (2 * s)) (mocodez_3408 (b + s) (2 * s))
theorem mocodez_3410 (b s : Nat) : xall (fun _ a => xBm a) 1 b s codez_3410 := And.intro mobz_427 mobz_2475
theorem mocodez_3411 (b s : Nat) : xall (fun _ a => xBm a) 1 b s codez_3411 := And.intro mobz_1451 mobz_no
theorem mocodez_3412 (b s : Nat) : xall (fun _ a => xBm a) 2 b s codez_3412 := And.intro (mocodez_3410 b (2 * s)) (mocodez_3411 (b + s) (2 * s))
theorem mocodez_3413 (b s : Nat) : xall (fun _ a => xBm a) 1 b s codez_3413 := And.intro mobz_939 mobz_no
theorem mocodez_3414 (b s : Nat) : xall (fun _ a => xBm a) 1 b s codez_3414 := And.intro mobz_1963 mobz_no
theorem mocodez_3415 (b s : Nat) : xall (fun _ a => xBm a) 2 b s codez_3415 := And.intro (mocodez_3413 b (2 * s)) (mocodez_3414 (b + s) (2 * s))
theorem mocodez_3416 (b s : Nat) : xall (fun _ a => xBm a) 3 b s codez_3416 := And.intro (mocodez_3412 b (2 * s)) (mocodez_3415 (b + s) (2 * s))
theorem mocodez_3417 (b s : Nat) : xall (fun _ a => xBm a) 4 b s codez_3417 := And.intro (mocodez_3409 b (2 * s)) (mocodez_3416 (b + s) (2 * s))
theorem mocodez_3418 (b s : Nat) : xall (fun _ a => xBm a) 5 b s codez_3418 := And.intro (mocodez_3402 b (2 * s)) (mocodez_3417 (b + s) (2 * s))
theorem mocodez_3419 (b s : Nat) : xall (fun _ a => xBm a) 1 b s codez_3419 := And.intro mobz_107 mobz_2155
theorem mocodez_3420 (b s : Nat) : xall (fun _ a => xBm a) 1 b s codez_3420 := And.intro mobz_1131 mobz_no
theorem mocodez_3421 (b s : Nat) : xall (fun _ a => xBm a) 2 b s codez_3421 := And.intro (mocodez_3419 b (2 * s)) (mocodez_3420 (b + s) (2 * s))
theorem mocodez_3422 (b s : Nat) : xall (fun _ a => xBm a) 1 b s codez_3422 := And.intro mobz_619 mobz_no
theorem mocodez_3423 (b s : Nat) : xall (fun _ a => xBm a) 1 b s codez_3423 := And.intro mobz_1643 mobz_no
theorem mocodez_3424 (b s : Nat) : xall (fun _ a => xBm a) 2 b s codez_3424 := And.intro (mocodez_3422 b (2 * s)) (mocodez_3423 (b + s) (2 * s))
theorem mocodez_3425 (b s : Nat) : xall (fun _ a => xBm a) 3 b s codez_3425 := And.intro (mocodez_3421 b (2 * s)) (mocodez_3424 (b + s) (2 * s))
theorem mocodez_3426 (b s : Nat) : xall (fun _ a => xBm a) 1 b s codez_3426 := And.intro mobz_363 mobz_2411
theorem mocodez_3427 (b s : Nat) : xall (fun _ a => xBm a) 1 b s codez_3427 := And.intro mobz_1387 mobz_no
theorem mocodez_3428 (b s : Nat) : xall (fun _ a => xBm a) 2 b s codez_3428 := And.intro (mocodez_3426 b (2 * s)) (mocodez_3427 (b + s) (2 * s))
theorem mocodez_3429 (b s : Nat) : xall (fun _ a => xBm a) 1 b s codez_3429 := And.intro mobz_875 mobz_no
theorem mocodez_3430 (b s : Nat) : xall (fun _ a => xBm a) 1 b s codez_3430 := And.intro mobz_1899 mobz_no
theorem mocodez_3431 (b s : Nat) : xall (fun _ a => xBm a) 2 b s codez_3431 := And.intro (mocodez_3429 b (2 * s)) (mocodez_3430 (b + s) (2 * s))
theorem mocodez_3432 (b s : Nat) : xall (fun _ a => xBm a) 3 b s codez_3432 := And.intro (mocodez_3428 b (2 * s)) (mocodez_3431 (b + s) (2 * s))
theorem mocodez_3433 (b s : Nat) : xall (fun _ a => xBm a) 4 b s codez_3433 := And.intro (mocodez_3425 b (2 * s)) (mocodez_3432 (b + s) (2 * s))
theorem mocodez_3434 (b s : Nat) : xall (fun _ a => xBm a) 1 b s codez_3434 := And.intro mobz_235 mobz_2283
theorem mocodez_3435 (b s : Nat) : xall (fun _ a => xBm a) 1 b s codez_3435 := And.intro mobz_1259 mobz_no
theorem mocodez_3436 (b s : Nat) : xall (fun _ a => xBm a) 2 b s codez_3436 := And.intro (mocodez_3434 b (2 * s)) (mocodez_3435 (b + s) (2 * s))
theorem mocodez_3437 (b s : Nat) : xall (fun _ a => xBm a) 1 b s codez_3437 := And.intro mobz_747 mobz_no
theorem mocodez_3438 (b s : Nat) : xall (fun _ a => xBm a) 1 b s codez_3438 := And.intro mobz_1771 mobz_no
theorem mocodez_3439 (b s : Nat) : xall (fun _ a => xBm a) 2 b s codez_3439 := And.intro (mocodez_3437 b (2 * s)) (mocodez_3438 (b + s) (2 * s))
theorem mocodez_3440 (b s : Nat) : xall (fun _ a => xBm a) 3 b s codez_3440 := And.intro (mocodez_3436 b (2 * s)) (mocodez_3439 (b + s) (2 * s))
theorem mocodez_3441 (b s : Nat) : xall (fun _ a => xBm a) 1 b s codez_3441 := And.intro mobz_491 mobz_2539
theorem mocodez_3442 (b s : Nat) : xall (fun _ a => xBm a) 1 b s codez_3442 := And.intro mobz_1515 mobz_no
theorem mocodez_3443 (b s : Nat) : xall (fun _ a => xBm a) 2 b s codez_3443 := And.intro (mocodez_3441 b (2 * s)) (mocodez_3442 (b + s) (2 * s))
theorem mocodez_3444 (b s : Nat) : xall (fun _ a => xBm a) 1 b s codez_3444 := And.intro mobz_1003 mobz_no
theorem mocodez_3445 (b s : Nat) : xall (fun _ a => xBm a) 1 b s codez_3445 := And.intro mobz_2027 mobz_no
theorem mocodez_3446 (b s : Nat) : xall (fun _ a => xBm a) 2 b s codez_3446 := And.intro (mocodez_3444 b (2 * s)) (mocodez_3445 (b + s) (2 * s))
theorem mocodez_3447 (b s : Nat) : xall (fun _ a => xBm a) 3 b s codez_3447 := And.intro (mocodez_3443 b (2 * s)) (mocodez_3446 (b + s) (2 * s))
theorem mocodez_3448 (b s : Nat) : xall (fun _ a => xBm a) 4 b s codez_3448 := And.intro (mocodez_3440 b (2 * s)) (mocodez_3447 (b + s) (2 * s))
theorem mocodez_3449 (b s : Nat) : xall (fun _ a => xBm a) 5 b s codez_3449 := And.intro (mocodez_3433 b (2 * s)) (mocodez_3448 (b + s) (2 * s))
theorem mocodez_3450 (b s : Nat) : xall (fun _ a => xBm a) 6 b s codez_3450 := And.intro (mocodez_3418 b (2 * s)) (mocodez_3449 (b + s) (2 * s))
theorem mocodez_3451 (b s : Nat) : xall (fun _ a => xBm a) 7 b s codez_3451 := And.intro (mocodez_3387 b (2 * s)) (mocodez_3450 (b + s) (2 * s))
theorem mocodez_3452 (b s : Nat) : xall (fun _ a => xBm a) 1 b s codez_3452 := And.intro mobz_27 mobz_2075
theorem mocodez_3453 (b s : Nat) : xall (fun _ a => xBm a) 1 b s codez_3453 := And.intro mobz_1051 mobz_no
theorem mocodez_3454 (b s : Nat) : xall (fun _ a => xBm a) 2 b s codez_3454 := And.intro (mocodez_3452 b (2 * s)) (mocodez_3453 (b + s) (2 * s))
theorem mocodez_3455 (b s : Nat) : xall (fun _ a => xBm a) 1 b s codez_3455 := And.intro mobz_539 mobz_no
theorem mocodez_3456 (b s : Nat) : xall (fun _ a => xBm a) 1 b s codez_3456 := And.intro mobz_1563 mobz_no
theorem mocodez_3457 (b s : Nat) : xall (fun _ a => xBm a) 2 b s codez_3457 := And.intro (mocodez_3455 b (2 * s)) (mocodez_3456 (b + s) (2 * s))
theorem mocodez_3458 (b s : Nat) : xall (fun _ a => xBm a) 3 b s codez_3458 := And.intro (mocodez_3454 b (2 * s)) (mocodez_3457 (b + s) (2 * s))
theorem mocodez_3459 (b s : Nat) : xall (fun _ a => xBm a) 1 b s codez_3459 := And.intro mobz_283 mobz_2331
theorem mocodez_3460 (b s : Nat) : xall (fun _ a => xBm a) 1 b s codez_3460 := And.intro mobz_1307 mobz_no
theorem mocodez_3461 (b s : Nat) : xall (fun _ a => xBm a) 2 b s codez_3461 := And.intro (mocodez_3459 b (2 * s)) (mocodez_3460 (b + s) (2 * s))
theorem mocodez_3462 (b s : Nat) : xall (fun _ a => xBm a) 1 b s codez_3462 := And.intro mobz_795 mobz_no
theorem mocodez_3463 (b s : Nat) : xall (fun _ a => xBm a) 1 b s codez_3463 := And.intro mobz_1819 mobz_no
theorem mocodez_3464 (b s : Nat) : xall (fun _ a => xBm a) 2 b s codez_3464 := And.intro (mocodez_3462 b (2 * s)) (mocodez_3463 (b + s) (2 * s))
theorem mocodez_3465 (b s : Nat) : xall (fun _ a => xBm a) 3 b s codez_3465 := And.intro (mocodez_3461 b (2 * s)) (mocodez_3464 (b + s) (2 * s))
theorem mocodez_3466 (b s : Nat) : xall (fun _ a => xBm a) 4 b s codez_3466 := And.intro (mocodez_3458 b (2 * s)) (mocodez_3465 (b + s) (2 * s))
theorem mocodez_3467 (b s : Nat) : xall (fun _ a => xBm a) 1 b s codez_3467 := And.intro mobz_155 mobz_2203
theorem mocodez_3468 (b s : Nat) : xall (fun _ a => xBm a) 1 b s codez_3468 := And.intro mobz_1179 mobz_no
theorem mocodez_3469 (b s : Nat) : xall (fun _ a => xBm a) 2 b s codez_3469 := And.intro (mocodez_3467 b (2 * s)) (mocodez_3468 (b + s) (2 * s))
theorem mocodez_3470 (b s : Nat) : xall (fun _ a => xBm a) 1 b s codez_3470 := And.intro mobz_667 mobz_no
theorem mocodez_3471 (b s : Nat) : xall (fun _ a => xBm a) 1 b s codez_3471 := And.intro mobz_1691 mobz_no
theorem mocodez_3472 (b s : Nat) : xall (fun _ a => xBm a) 2 b s codez_3472 := And.intro (mocodez_3470 b (2 * s)) (mocodez_3471 (b + s) (2 * s))
theorem mocodez_3473 (b s : Nat) : xall (fun _ a => xBm a) 3 b s codez_3473 := And.intro (mocodez_3469 b (2 * s)) (mocodez_3472 (b + s) (2 * s))
theorem mocodez_3474 (b s : Nat) : xall (fun _ a => xBm a) 1 b s codez_3474 := And.intro mobz_411 mobz_2459
theorem mocodez_3475 (b s : Nat) : xall (fun _ a => xBm a) 1 b s codez_3475 := And.intro mobz_1435 mobz_no
theorem mocodez_3476 (b s : Nat) : xall (fun _ a => xBm a) 2 b s codez_3476 := And.intro (mocodez_3474 b (2 * s)) (mocodez_3475 (b + s) (2 * s))
theorem mocodez_3477 (b s : Nat) : xall (fun _ a => xBm a) 1 b s codez_3477 := And.intro mobz_923 mobz_no
theorem mocodez_3478 (b s : Nat) : xall (fun _ a => xBm a) 1 b s codez_3478 := And.intro mobz_1947 mobz_no
theorem mocodez_3479 (b s : Nat) : xall (fun _ a => xBm a) 2 b s codez_3479 := And.intro (mocodez_3477 b (2 * s)) (mocodez_3478 (b + s) (2 * s))
theorem mocodez_3480 (b s : Nat) : xall (fun _ a => xBm a) 3 b s codez_3480 := And.intro (mocodez_3476 b (2 * s)) (mocodez_3479 (b + s) (2 * s))
theorem mocodez_3481 (b s : Nat) : xall (fun _ a => xBm a) 4 b s codez_3481 := And.intro (mocodez_3473 b (2 * s)) (mocodez_3480 (b + s) (2 * s))
theorem mocodez_3482 (b s : Nat) : xall (fun _ a => xBm a) 5 b s codez_3482 := And.intro (mocodez_3466 b (2 * s)) (mocodez_3481 (b + s) (2 * s))
theorem mocodez_3483 (b s : Nat) : xall (fun _ a => xBm a) 1 b s codez_3483 := And.intro mobz_91 mobz_2139
theorem mocodez_3484 (b s : Nat) : xall (fun _ a => xBm a) 1 b s codez_3484 := And.intro mobz_1115 mobz_no
theorem mocodez_3485 (b s : Nat) : xall (fun _ a => xBm a) 2 b s codez_3485 := And.intro (mocodez_3483 b (2 * s)) (mocodez_3484 (b + s) (2 * s))
theorem mocodez_3486 (b s : Nat) : xall (fun _ a => xBm a) 1 b s codez_3486 := And.intro mobz_603 mobz_no
theorem mocodez_3487 (b s : Nat) : xall (fun _ a => xBm a) 1 b s codez_3487 := And.intro mobz_1627 mobz_no
theorem mocodez_3488 (b s : Nat) : xall (fun _ a => xBm a) 2 b s codez_3488 := And.intro (mocodez_3486 b (2 * s)) (mocodez_3487 (b + s) (2 * s))
theorem mocodez_3489 (b s : Nat) : xall (fun _ a => xBm a) 3 b s codez_3489 := And.intro (mocodez_3485 b (2 * s)) (mocodez_3488 (b + s) (2 * s))
theorem mocodez_3490 (b s : Nat) : xall (fun _ a => xBm a) 1 b s codez_3490 := And.intro mobz_347 mobz_2395
theorem mocodez_3491 (b s : Nat) : xall (fun _ a => xBm a) 1 b s codez_3491 := And.intro mobz_1371 mobz_no
theorem mocodez_3492 (b s : Nat) : xall (fun _ a => xBm a) 2 b s codez_3492 := And.intro (mocodez_3490 b (2 * s)) (mocodez_3491 (b + s) (2 * s))
theorem mocodez_3493 (b s : Nat) : xall (fun _ a => xBm a) 1 b s codez_3493 := And.intro mobz_859 mobz_no
theorem mocodez_3494 (b s : Nat) : xall (fun _ a => xBm a) 1 b s codez_3494 := And.intro mobz_1883 mobz_no
theorem mocodez_3495 (b s : Nat) : xall (fun _ a => xBm a) 2 b s codez_3495 := And.intro (mocodez_3493 b (2 * s)) (mocodez_3494 (b + s) (2 * s))
theorem mocodez_3496 (b s : Nat) : xall (fun _ a => xBm a) 3 b s codez_3496 := And.intro (mocodez_3492 b (2 * s)) (mocodez_3495 (b + s) (2 * s))
theorem mocodez_3497 (b s : Nat) : xall (fun _ a => xBm a) 4 b s codez_3497 := And.intro (mocodez_3489 b (2 * s)) (mocodez_3496 (b + s) (2 * s))
theorem mocodez_3498 (b s : Nat) : xall (fun _ a => xBm a) 1 b s codez_3498 := And.intro mobz_219 mobz_2267
theorem mocodez_3499 (b s : Nat) : xall (fun _ a => xBm a) 1 b s codez_3499 := And.intro mobz_1243 mobz_no
theorem mocodez_3500 (b s : Nat) : xall (fun _ a => xBm a) 2 b s codez_3500 := And.intro (mocodez_3498 b (2 * s)) (mocodez_3499 (b + s) (2 * s))
theorem mocodez_3501 (b s : Nat) : xall (fun _ a => xBm a) 1 b s codez_3501 := And.intro mobz_731 mobz_no
theorem mocodez_3502 (b s : Nat) : xall (fun _ a => xBm a) 1 b s codez_3502 := And.intro mobz_1755 mobz_no
theorem mocodez_3503 (b s : Nat) : xall (fun _ a => xBm a) 2 b s codez_3503 := And.intro (mocodez_3501 b (2 * s)) (mocodez_3502 (b + s) (2 * s))
theorem mocodez_3504 (b s : Nat) : xall (fun _ a => xBm a) 3 b s codez_3504 := And.intro (mocodez_3500 b (2 * s)) (mocodez_3503 (b + s) (2 * s))
theorem mocodez_3505 (b s : Nat) : xall (fun _ a => xBm a) 1 b s codez_3505 := And.intro mobz_475 mobz_2523
theorem mocodez_3506 (b s : Nat) : xall (fun _ a => xBm a) 1 b s codez_3506 := And.intro mobz_1499 mobz_no
theorem mocodez_3507 (b s : Nat) : xall (fun _ a => xBm a) 2 b s codez_3507 := And.intro (mocodez_3505 b (2 * s)) (mocodez_3506 (b + s) (2 * s))
theorem mocodez_3508 (b s : Nat) : xall (fun _ a => xBm a) 1 b s codez_3508 := And.intro mobz_987 mobz_no
theorem mocodez_3509 (b s : Nat) : xall (fun _ a => xBm a) 1 b s codez_3509 := And.intro mobz_2011 mobz_no
theorem mocodez_3510 (b s : Nat) : xall (fun _ a => xBm a) 2 b s codez_3510 := And.intro (mocodez_3508 b (2 * s)) (mocodez_3509 (b + s) (2 * s))
theorem mocodez_3511 (b s : Nat) : xall (fun _ a => xBm a) 3 b s codez_3511 := And.intro (mocodez_3507 b (2 * s)) (mocodez_3510 (b + s) (2 * s))
theorem mocodez_3512 (b s : Nat) : xall (fun _ a => xBm a) 4 b s codez_3512 := And.intro (mocodez_3504 b (2 * s)) (mocodez_3511 (b + s) (2 * s))
theorem mocodez_3513 (b s : Nat) : xall (fun _ a => xBm a) 5 b s codez_3513 := And.intro (mocodez_3497 b (2 * s)) (mocodez_3512 (b + s) (2 * s))
theorem mocodez_3514 (b s : Nat) : xall (fun _ a => xBm a) 6 b s codez_3514 := And.intro (mocodez_3482 b (2 * s)) (mocodez_3513 (b + s) (2 * s))
theorem mocodez_3515 (b s : Nat) : xall (fun _ a => xBm a) 1 b s codez_3515 := And.intro mobz_59 mobz_2107
theorem mocodez_3516 (b s : Nat) : xall (fun _ a => xBm a) 1 b s codez_3516 := And.intro mobz_1083 mobz_no
theorem mocodez_3517 (b s : Nat) : xall (fun _ a => xBm a) 2 b s codez_3517 := And.intro (mocodez_3515 b (2 * s)) (mocodez_3516 (b + s) (2 * s))
theorem mocodez_3518 (b s : Nat) : xall (fun _ a => xBm a) 1 b s codez_3518 := And.intro mobz_571 mobz_no
theorem mocodez_3519 (b s : Nat) : xall (fun _ a => xBm a) 1 b s codez_3519 := And.intro mobz_1595 mobz_no
theorem mocodez_3520 (b s : Nat) : xall (fun _ a => xBm a) 2 b s codez_3520 := And.intro (mocodez_3518 b (2 * s)) (mocodez_3519 (b + s) (2 * s))
theorem mocodez_3521 (b s : Nat) : xall (fun _ a => xBm a) 3 b s codez_3521 := And.intro (mocodez_3517 b (2 * s)) (mocodez_3520 (b + s) (2 * s))
theorem mocodez_3522 (b s : Nat) : xall (fun _ a => xBm a) 1 b s codez_3522 := And.intro mobz_315 mobz_2363
theorem mocodez_3523 (b s : Nat) : xall (fun _ a => xBm a) 1 b s codez_3523 := And.intro mobz_1339 mobz_no
theorem mocodez_3524 (b s : Nat) : xall (fun _ a => xBm a) 2 b s codez_3524 := And.intro (mocodez_3522 b (2 * s)) (mocodez_3523 (b + s) (2 * s))
theorem mocodez_3525 (b s : Nat) : xall (fun _ a => xBm a) 1 b s codez_3525 := And.intro mobz_827 mobz_no
theorem mocodez_3526 (b s : Nat) : xall (fun _ a => xBm a) 1 b s codez_3526 := And.intro mobz_1851 mobz_no
theorem mocodez_3527 (b s : Nat) : xall (fun _ a => xBm a) 2 b s codez_3527 := And.intro (mocodez_3525 b (2 * s)) (mocodez_3526 (b + s) (2 * s))
theorem mocodez_3528 (b s : Nat) : xall (fun _ a => xBm a) 3 b s codez_3528 := And.intro (mocodez_3524 b (2 * s)) (mocodez_3527 (b + s) (2 * s))
theorem mocodez_3529 (b s : Nat) : xall (fun _ a => xBm a) 4 b s codez_3529 := And.intro (mocodez_3521 b (2 * s)) (mocodez_3528 (b + s) (2 * s))
theorem mocodez_3530 (b s : Nat) : xall (fun _ a => xBm a) 1 b s codez_3530 := And.intro mobz_187 mobz_2235
theorem mocodez_3531 (b s : Nat) : xall (fun _ a => xBm a) 1 b s codez_3531 := And.intro mobz_1211 mobz_no
theorem mocodez_3532 (b s : Nat) : xall (fun _ a => xBm a) 2 b s codez_3532 := And.intro (mocodez_3530 b (2 * s)) (mocodez_3531 (b + s) (2 * s))
theorem mocodez_3533 (b s : Nat) : xall (fun _ a => xBm a) 1 b s codez_3533 := And.intro mobz_699 mobz_no
theorem mocodez_3534 (b s : Nat) : xall (fun _ a => xBm a) 1 b s codez_3534 := And.intro mobz_1723 mobz_no
theorem mocodez_3535 (b s : Nat) : xall (fun _ a => xBm a) 2 b s codez_3535 := And.intro (mocodez_3533 b (2 * s)) (mocodez_3534 (b + s) (2 * s))
theorem mocodez_3536 (b s : Nat) : xall (fun _ a => xBm a) 3 b s codez_3536 := And.intro (mocodez_3532 b (2 * s)) (mocodez_3535 (b + s) (2 * s))
theorem mocodez_3537 (b s : Nat) : xall (fun _ a => xBm a) 1 b s codez_3537 := And.intro mobz_443 mobz_2491
theorem mocodez_3538 (b s : Nat) : xall (fun _ a => xBm a) 1 b s codez_3538 := And.intro mobz_1467 mobz_no
theorem mocodez_3539 (b s : Nat) : xall (fun _ a => xBm a) 2 b s codez_3539 := And.intro (mocodez_3537 b (2 * s)) (mocodez_3538 (b + s) (2 * s))
theorem mocodez_3540 (b s : Nat) : xall (fun _ a => xBm a) 1 b s codez_3540 := And.intro mobz_955 mobz_no
theorem mocodez_3541 (b s : Nat) : xall (fun _ a => xBm a) 1 b s codez_3541 := And.intro mobz_1979 mobz_no
theorem mocodez_3542 (b s : Nat) : xall (fun _ a => xBm a) 2 b s codez_3542 := And.intro (mocodez_3540 b (2 * s)) (mocodez_3541 (b + s) (2 * s))
theorem mocodez_3543 (b s : Nat) : xall (fun _ a => xBm a) 3 b s codez_3543 := And.intro (mocodez_3539 b (2 * s)) (mocodez_3542 (b + s) (2 * s))
theorem mocodez_3544 (b s : Nat) : xall (fun _ a => xBm a) 4 b s codez_3544 := And.intro (mocodez_3536 b (2 * s)) (mocodez_3543 (b + s) (2 * s))
theorem mocodez_3545 (b s : Nat) : xall (fun _ a => xBm a) 5 b s codez_3545 := And.intro (mocodez_3529 b (2 * s)) (mocodez_3544 (b + s) (2 * s))
theorem mocodez_3546 (b s : Nat) : xall (fun _ a => xBm a) 1 b s codez_3546 := And.intro mobz_123 mobz_2171
theorem mocodez_3547 (b s : Nat) : xall (fun _ a => xBm a) 1 b s codez_3547 := And.intro mobz_1147 mobz_no
theorem mocodez_3548 (b s : Nat) : xall (fun _ a => xBm a) 2 b s codez_3548 := And.intro (mocodez_3546 b (2 * s)) (mocodez_3547 (b + s) (2 * s))
theorem mocodez_3549 (b s : Nat) : xall (fun _ a => xBm a) 1 b s codez_3549 := And.intro mobz_635 mobz_no
theorem mocodez_3550 (b s : Nat) : xall (fun _ a => xBm a) 1 b s codez_3550 := And.intro mobz_1659 mobz_no
theorem mocodez_3551 (b s : Nat) : xall (fun _ a => xBm a) 2 b s codez_3551 := And.intro (mocodez_3549 b (2 * s)) (mocodez_3550 (b + s) (2 * s))
theorem mocodez_3552 (b s : Nat) : xall (fun _ a => xBm a) 3 b s codez_3552 := And.intro (mocodez_3548 b (2 * s)) (mocodez_3551 (b + s) (2 * s))
theorem mocodez_3553 (b s : Nat) : xall (fun _ a => xBm a) 1 b s codez_3553 := And.intro mobz_379 mobz_2427
theorem mocodez_3554 (b s : Nat) : xall (fun _ a => xBm a) 1 b s codez_3554 := And.intro mobz_1403 mobz_no
theorem mocodez_3555 (b s : Nat) : xall (fun _ a => xBm a) 2 b s codez_3555 := And.intro (mocodez_3553 b (2 * s)) (mocodez_3554 (b + s) (2 * s))
theorem mocodez_3556 (b s : Nat) : xall (fun _ a => xBm a) 1 b s codez_3556 := And.intro mobz_891 mobz_no
theorem mocodez_3557 (b s : Nat) : xall (fun _ a => xBm a) 1 b s codez_3557 := And.intro mobz_1915 mobz_no
theorem mocodez_3558 (b s : Nat) : xall (fun _ a => xBm a) 2 b s codez_3558 := And.intro (mocodez_3556 b (2 * s)) (mocodez_3557 (b + s) (2 * s))
theorem mocodez_3559 (b s : Nat) : xall (fun _ a => xBm a) 3 b s codez_3559 := And.intro (mocodez_3555 b (2 * s)) (mocodez_3558 (b + s) (2 * s))
theorem mocodez_3560 (b s : Nat) : xall (fun _ a => xBm a) 4 b s codez_3560 := And.intro (mocodez_3552 b (2 * s)) (mocodez_3559 (b + s) (2 * s))
theorem mocodez_3561 (b s : Nat) : xall (fun _ a => xBm a) 1 b s codez_3561 := And.intro mobz_251 mobz_2299
theorem mocodez_3562 (b s : Nat) : xall (fun _ a => xBm a) 1 b s codez_3562 := And.intro mobz_1275 mobz_no
theorem mocodez_3563 (b s : Nat) : xall (fun _ a => xBm a) 2 b s codez_3563 := And.intro (mocodez_3561 b (2 * s)) (mocodez_3562 (b + s) (2 * s))
theorem mocodez_3564 (b s : Nat) : xall (fun _ a => xBm a) 1 b s codez_3564 := And.intro mobz_763 mobz_no
theorem mocodez_3565 (b s : Nat) : xall (fun _ a => xBm a) 1 b s codez_3565 := And.intro mobz_1787 mobz_no
theorem mocodez_3566 (b s : Nat) : xall (fun _ a => xBm a) 2 b s codez_3566 := And.intro (mocodez_3564 b (2 * s)) (mocodez_3565 (b + s) (2 * s))
theorem mocodez_3567 (b s : Nat) : xall (fun _ a => xBm a) 3 b s codez_3567 := And.intro (mocodez_3563 b (2 * s)) (mocodez_3566 (b + s) (2 * s))
theorem mocodez_3568 (b s : Nat) : xall (fun _ a => xBm a) 1 b s codez_3568 := And.intro mobz_507 mobz_no
theorem mocodez_3569 (b s : Nat) : xall (fun _ a => xBm a) 1 b s codez_3569 := And.intro mobz_1531 mobz_no
theorem mocodez_3570 (b s : Nat) : xall (fun _ a => xBm a) 2 b s codez_3570 := And.intro (mocodez_3568 b (2 * s)) (mocodez_3569 (b + s) (2 * s))
theorem mocodez_3571 (b s : Nat) : xall (fun _ a => xBm a) 1 b s codez_3571 := And.intro mobz_1019 mobz_no
theorem mocodez_3572 (b s : Nat) : xall (fun _ a => xBm a) 1 b s codez_3572 := And.intro mobz_2043 mobz_no
theorem mocodez_3573 (b s : Nat) : xall (fun _ a => xBm a) 2 b s codez_3573 := And.intro (mocodez_3571 b (2 * s)) (mocodez_3572 (b + s) (2 * s))
theorem mocodez_3574 (b s : Nat) : xall (fun _ a => xBm a) 3 b s codez_3574 := And.intro (mocodez_3570 b (2 * s)) (mocodez_3573 (b + s) (2 * s))
theorem mocodez_3575 (b s : Nat) : xall (fun _ a => xBm a) 4 b s codez_3575 := And.intro (mocodez_3567 b (2 * s)) (mocodez_3574 (b + s) (2 * s))
theorem mocodez_3576 (b s : Nat) : xall (fun _ a => xBm a) 5 b s codez_3576 := And.intro (mocodez_3560 b (2 * s)) (mocodez_3575 (b + s) (2 * s))
theorem mocodez_3577 (b s : Nat) : xall (fun _ a => xBm a) 6 b s codez_3577 := And.intro (mocodez_3545 b (2 * s)) (mocodez_3576 (b + s) (2 * s))
theorem mocodez_3578 (b s : Nat) : xall (fun _ a => xBm a) 7 b s codez_3578 := And.intro (mocodez_3514 b (2 * s)) (mocodez_3577 (b + s) (2 * s))
theorem mocodez_3579 (b s : Nat) : xall (fun _ a => xBm a) 8 b s codez_3579 := And.intro (mocodez_3451 b (2 * s)) (mocodez_3578 (b + s) (2 * s))
theorem mocodez_3580 (b s : Nat) : xall (fun _ a => xBm a) 9 b s codez_3580 := And.intro (mocodez_3324 b (2 * s)) (mocodez_3579 (b + s) (2 * s))
theorem mocodez_3581 (b s : Nat) : xall (fun _ a => xBm a) 1 b s codez_3581 := And.intro mobz_7 mobz_2055
theorem mocodez_3582 (b s : Nat) : xall (fun _ a => xBm a) 1 b s codez_3582 := And.intro mobz_1031 mobz_no
theorem mocodez_3583 (b s : Nat) : xall (fun _ a => xBm a) 2 b s codez_3583 := And.intro (mocodez_3581 b (2 * s)) (mocodez_3582 (b + s) (2 * s))
theorem mocodez_3584 (b s : Nat) : xall (fun _ a => xBm a) 1 b s codez_3584 := And.intro mobz_519 mobz_no
theorem mocodez_3585 (b s : Nat) : xall (fun _ a => xBm a) 1 b s codez_3585 := And.intro mobz_1543 mobz_no
theorem mocodez_3586 (b s : Nat) : xall (fun _ a => xBm a) 2 b s codez_3586 := And.intro (mocodez_3584 b (2 * s)) (mocodez_3585 (b + s) (2 * s))
theorem mocodez_3587 (b s : Nat) : xall (fun _ a => xBm a) 3 b s codez_3587 := And.intro (mocodez_3583 b (2 * s)) (mocodez_3586 (b + s) (2 * s))
theorem mocodez_3588 (b s : Nat) : xall (fun _ a => xBm a) 1 b s codez_3588 := And.intro mobz_263 mobz_2311
theorem mocodez_3589 (b s : Nat) : xall (fun _ a => xBm a) 1 b s codez_3589 := And.intro mobz_1287 mobz_no
theorem mocodez_3590 (b s : Nat) : xall (fun _ a => xBm a) 2 b s codez_3590 := And.intro (mocodez_3588 b (2 * s)) (mocodez_3589 (b + s) (2 * s))
theorem mocodez_3591 (b s : Nat) : xall (fun _ a => xBm a) 1 b s codez_3591 := And.intro mobz_775 mobz_no
theorem mocodez_3592 (b s : Nat) : xall (fun _ a => xBm a) 1 b s codez_3592 := And.intro mobz_1799 mobz_no
theorem mocodez_3593 (b s : Nat) : xall (fun _ a => xBm a) 2 b s codez_3593 := And.intro (mocodez_3591 b (2 * s)) (mocodez_3592 (b + s) (2 * s))
theorem mocodez_3594 (b s : Nat) : xall (fun _ a => xBm a) 3 b s codez_3594 := And.intro (mocodez_3590 b (2 * s)) (mocodez_3593 (b + s) (2 * s))
theorem mocodez_3595 (b s : Nat) : xall (fun _ a => xBm a) 4 b s codez_3595 := And.intro (mocodez_3587 b (2 * s)) (mocodez_3594 (b + s) (2 * s))
theorem mocodez_3596 (b s : Nat) : xall (fun _ a => xBm a) 1 b s codez_3596 := And.intro mobz_135 mobz_2183
theorem mocodez_3597 (b s : Nat) : xall (fun _ a => xBm a) 1 b s codez_3597 := And.intro mobz_1159 mobz_no
theorem mocodez_3598 (b s : Nat) : xall (fun _ a => xBm a) 2 b s codez_3598 := And.intro (mocodez_3596 b (2 * s)) (mocodez_3597 (b + s) (2 * s))
theorem mocodez_3599 (b s : Nat) : xall (fun _ a => xBm a) 1 b s codez_3599 := And.intro mobz_647 mobz_no
theorem mocodez_3600 (b s : Nat) : xall (fun _ a => xBm a) 1 b s codez_3600 := And.intro mobz_1671 mobz_no
theorem mocodez_3601 (b s : Nat) : xall (fun _ a => xBm a) 2 b s codez_3601 := And.intro (mocodez_3599 b (2 * s)) (mocodez_3600 (b + s) (2 * s))
theorem mocodez_3602 (b s : Nat) : xall (fun _ a => xBm a) 3 b s codez_3602 := And.intro (mocodez_3598 b (2 * s)) (mocodez_3601 (b + s) (2 * s))
theorem mocodez_3603 (b s : Nat) : xall (fun _ a => xBm a) 1 b s codez_3603 := And.intro mobz_391 mobz_2439
theorem mocodez_3604 (b s : Nat) : xall (fun _ a => xBm a) 1 b s codez_3604 := And.intro mobz_1415 mobz_no
theorem mocodez_3605 (b s : Nat) : xall (fun _ a => xBm a) 2 b s codez_3605 := And.intro (mocodez_3603 b (2 * s)) (mocodez_3604 (b + s) (2 * s))
theorem mocodez_3606 (b s : Nat) : xall (fun _ a => xBm a) 1 b s codez_3606 := And.intro mobz_903 mobz_no
theorem mocodez_3607 (b s : Nat) : xall (fun _ a => xBm a) 1 b s codez_3607 := And.intro mobz_1927 mobz_no
theorem mocodez_3608 (b s : Nat) : xall (fun _ a => xBm a) 2 b s codez_3608 := And.intro (mocodez_3606 b (2 * s)) (mocodez_3607 (b + s) (2 * s))
theorem mocodez_3609 (b s : Nat) : xall (fun _ a => xBm a) 3 b s codez_3609 := And.intro (mocodez_3605 b (2 * s)) (mocodez_3608 (b + s) (2 * s))
theorem mocodez_3610 (b s : Nat) : xall (fun _ a => xBm a) 4 b s codez_3610 := And.intro (mocodez_3602 b (2 * s)) (mocodez_3609 (b + s) (2 * s))
theorem mocodez_3611 (b s : Nat) : xall (fun _ a => xBm a) 5 b s codez_3611 := And.intro (mocodez_3595 b (2 * s)) (mocodez_3610 (b + s) (2 * s))
theorem mocodez_3612 (b s : Nat) : xall (fun _ a => xBm a) 1 b s codez_3612 := And.intro mobz_71 mobz_2119
theorem mocodez_3613 (b s : Nat) : xall (fun _ a => xBm a) 1 b s codez_3613 := And.intro mobz_1095 mobz_no
theorem mocodez_3614 (b s : Nat) : xall (fun _ a => xBm a) 2 b s codez_3614 := And.intro (mocodez_3612 b (2 * s)) (mocodez_3613 (b + s) (2 * s))
theorem mocodez_3615 (b s : Nat) : xall (fun _ a => xBm a) 1 b s codez_3615 := And.intro mobz_583 mobz_no
theorem mocodez_3616 (b s : Nat) : xall (fun _ a => xBm a) 1 b s codez_3616 := And.intro mobz_1607 mobz_no
theorem mocodez_3617 (b s : Nat) : xall (fun _ a => xBm a) 2 b s codez_3617 := And.intro (mocodez_3615 b (2 * s)) (mocodez_3616 (b + s) (2 * s))
theorem mocodez_3618 (b s : Nat) : xall (fun _ a => xBm a) 3 b s codez_3618 := And.intro (mocodez_3614 b (2 * s)) (mocodez_3617 (b + s) (2 * s))
theorem mocodez_3619 (b s : Nat) : xall (fun _ a => xBm a) 1 b s codez_3619 := And.intro mobz_327 mobz_2375
theorem mocodez_3620 (b s : Nat) : xall (fun _ a => xBm a) 1 b s codez_3620 := And.intro mobz_1351 mobz_no
theorem mocodez_3621 (b s : Nat) : xall (fun _ a => xBm a) 2 b s codez_3621 := And.intro (mocodez_3619 b (2 * s)) (mocodez_3620 (b + s) (2 * s))
theorem mocodez_3622 (b s : Nat) : xall (fun _ a => xBm a) 1 b s codez_3622 := And.intro mobz_839 mobz_no
theorem mocodez_3623 (b s : Nat) : xall (fun _ a => xBm a) 1 b s codez_3623 := And.intro mobz_1863 mobz_no
theorem mocodez_3624 (b s : Nat) : xall (fun _ a => xBm a) 2 b s codez_3624 := And.intro (mocodez_3622 b (2 * s)) (mocodez_3623 (b + s) (2 * s))
theorem mocodez_3625 (b s : Nat) : xall (fun _ a => xBm a) 3 b s codez_3625 := And.intro (mocodez_3621 b (2 * s)) (mocodez_3624 (b + s) (2 * s))
theorem mocodez_3626 (b s : Nat) : xall (fun _ a => xBm a) 4 b s codez_3626 := And.intro (mocodez_3618 b (2 * s)) (mocodez_3625 (b + s) (2 * s))
theorem mocodez_3627 (b s : Nat) : xall (fun _ a => xBm a) 1 b s codez_3627 := And.intro mobz_199 mobz_2247
theorem mocodez_3628 (b s : Nat) : xall (fun _ a => xBm a) 1 b s codez_3628 := And.intro mobz_1223 mobz_no
theorem mocodez_3629 (b s : Nat) : xall (fun _ a => xBm a) 2 b s codez_3629 := And.intro (mocodez_3627 b (2 * s)) (mocodez_3628 (b + s) (2 * s))
theorem mocodez_3630 (b s : Nat) : xall (fun _ a => xBm a) 1 b s codez_3630 := And.intro mobz_711 mobz_no
theorem mocodez_3631 (b s : Nat) : xall (fun _ a => xBm a) 1 b s codez_3631 := And.intro mobz_1735 mobz_no
theorem mocodez_3632 (b s : Nat) : xall (fun _ a => xBm a) 2 b s codez_3632 := And.intro (mocodez_3630 b (2 * s)) (mocodez_3631 (b + s) (2 * s))
theorem mocodez_3633 (b s : Nat) : xall (fun _ a => xBm a) 3 b s codez_3633 := And.intro (mocodez_3629 b (2 * s)) (mocodez_3632 (b + s) (2 * s))
theorem mocodez_3634 (b s : Nat) : xall (fun _ a => xBm a) 1 b s codez_3634 := And.intro mobz_455 mobz_2503
theorem mocodez_3635 (b s : Nat) : xall (fun _ a => xBm a) 1 b s codez_3635 := And.intro mobz_1479 mobz_no
theorem mocodez_3636 (b s : Nat) : xall (fun _ a => xBm a) 2 b s codez_3636 := And.intro (mocodez_3634 b (2 * s)) (mocodez_3635 (b + s) (2 * s))
theorem mocodez_3637 (b s : Nat) : xall (fun _ a => xBm a) 1 b s codez_3637 := And.intro mobz_967 mobz_no
theorem mocodez_3638 (b s : Nat) : xall (fun _ a => xBm a) 1 b s codez_3638 := And.intro mobz_1991 mobz_no
theorem mocodez_3639 (b s : Nat) : xall (fun _ a => xBm a) 2 b s codez_3639 := And.intro (mocodez_3637 b (2 * s)) (mocodez_3638 (b + s) (2 * s))
theorem mocodez_3640 (b s : Nat) : xall (fun _ a => xBm a) 3 b s codez_3640 := And.intro (mocodez_3636 b (2 * s)) (mocodez_3639 (b + s) (2 * s))
theorem mocodez_3641 (b s : Nat) : xall (fun _ a => xBm a) 4 b s codez_3641 := And.intro (mocodez_3633 b (2 * s)) (mocodez_3640 (b + s) (2 * s))
theorem mocodez_3642 (b s : Nat) : xall (fun _ a => xBm a) 5 b s codez_3642 := And.intro (mocodez_3626 b (2 * s)) (mocodez_3641 (b + s) (2 * s))
theorem mocodez_3643 (b s : Nat) : xall (fun _ a => xBm a) 6 b s codez_3643 := And.intro (mocodez_3611 b (2 * s)) (mocodez_3642 (b + s) (2 * s))
theorem mocodez_3644 (b s : Nat) : xall (fun _ a => xBm a) 1 b s codez_3644 := And.intro mobz_39 mobz_2087
theorem mocodez_3645 (b s : Nat) : xall (fun _ a => xBm a) 1 b s codez_3645 := And.intro mobz_1063 mobz_no
theorem mocodez_3646 (b s : Nat) : xall (fun _ a => xBm a) 2 b s codez_3646 := And.intro (mocodez_3644 b (2 * s)) (mocodez_3645 (b + s) (2 * s))
theorem mocodez_3647 (b s : Nat) : xall (fun _ a => xBm a) 1 b s codez_3647 := And.intro mobz_551 mobz_no
theorem mocodez_3648 (b s : Nat) : xall (fun _ a => xBm a) 1 b s codez_3648 := And.intro mobz_1575 mobz_no
theorem mocodez_3649 (b s : Nat) : xall (fun _ a => xBm a) 2 b s codez_3649 := And.intro (mocodez_3647 b (2 * s)) (mocodez_3648 (b + s) (2 * s))
theorem mocodez_3650 (b s : Nat) : xall (fun _ a => xBm a) 3 b s codez_3650 := And.intro (mocodez_3646 b (2 * s)) (mocodez_3649 (b + s) (2 * s))
theorem mocodez_3651 (b s : Nat) : xall (fun _ a => xBm a) 1 b s codez_3651 := And.intro mobz_295 mobz_2343
theorem mocodez_3652 (b s : Nat) : xall (fun _ a => xBm a) 1 b s codez_3652 := And.intro mobz_1319 mobz_no
theorem mocodez_3653 (b s : Nat) : xall (fun _ a => xBm a) 2 b s codez_3653 := And.intro (mocodez_3651 b (2 * s)) (mocodez_3652 (b + s) (2 * s))
theorem mocodez_3654 (b s : Nat) : xall (fun _ a => xBm a) 1 b s codez_3654 := And.intro mobz_807 mobz_no
theorem mocodez_3655 (b s : Nat) : xall (fun _ a => xBm a) 1 b s codez_3655 := And.intro mobz_1831 mobz_no
theorem mocodez_3656 (b s : Nat) : xall (fun _ a => xBm a) 2 b s codez_3656 := And.intro (mocodez_3654 b (2 * s)) (mocodez_3655 (b + s) (2 * s))
theorem mocodez_3657 (b s : Nat) : xall (fun _ a => xBm a) 3 b s codez_3657 := And.intro (mocodez_3653 b (2 * s)) (mocodez_3656 (b + s) (2 * s))
theorem mocodez_3658 (b s : Nat) : xall (fun _ a => xBm a) 4 b s codez_3658 := And.intro (mocodez_3650 b (2 * s)) (mocodez_3657 (b + s) (2 * s))
theorem mocodez_3659 (b s : Nat) : xall (fun _ a => xBm a) 1 b s codez_3659 := And.intro mobz_167 mobz_2215
theorem mocodez_3660 (b s : Nat) : xall (fun _ a => xBm a) 1 b s codez_3660 := And.intro mobz_1191 mobz_no
theorem mocodez_3661 (b s : Nat) : xall (fun _ a => xBm a) 2 b s codez_3661 := And.intro (mocodez_3659 b (2 * s)) (mocodez_3660 (b + s) (2 * s))
theorem mocodez_3662 (b s : Nat) : xall (fun _ a => xBm a) 1 b s codez_3662 := And.intro mobz_679 mobz_no
theorem mocodez_3663 (b s : Nat) : xall (fun _ a => xBm a) 1 b s codez_3663 := And.intro mobz_1703 mobz_no
theorem mocodez_3664 (b s : Nat) : xall (fun _ a => xBm a) 2 b s codez_3664 := And.intro (mocodez_3662 b (2 * s)) (mocodez_3663 (b + s) (2 * s))
theorem mocodez_3665 (b s : Nat) : xall (fun _ a => xBm a) 3 b s codez_3665 := And.intro (mocodez_3661 b (2 * s)) (mocodez_3664 (b + s) (2 * s))
theorem mocodez_3666 (b s : Nat) : xall (fun _ a => xBm a) 1 b s codez_3666 := And.intro mobz_423 mobz_2471
theorem mocodez_3667 (b s : Nat) : xall (fun _ a => xBm a) 1 b s codez_3667 := And.intro mobz_1447 mobz_no
theorem mocodez_3668 (b s : Nat) : xall (fun _ a => xBm a) 2 b s codez_3668 := And.intro (mocodez_3666 b (2 * s)) (mocodez_3667 (b + s) (2 * s))
theorem mocodez_3669 (b s : Nat) : xall (fun _ a => xBm a) 1 b s codez_3669 := And.intro mobz_935 mobz_no
theorem mocodez_3670 (b s : Nat) : xall (fun _ a => xBm a) 1 b s codez_3670 := And.intro mobz_1959 mobz_no
theorem mocodez_3671 (b s : Nat) : xall (fun _ a => xBm a) 2 b s codez_3671 := And.intro (mocodez_3669 b (2 * s)) (mocodez_3670 (b + s) (2 * s))
theorem mocodez_3672 (b s : Nat) : xall (fun _ a => xBm a) 3 b s codez_3672 := And.intro (mocodez_3668 b (2 * s)) (mocodez_3671 (b + s) (2 * s))
theorem mocodez_3673 (b s : Nat) : xall (fun _ a => xBm a) 4 b s codez_3673 := And.intro (mocodez_3665 b (2 * s)) (mocodez_3672 (b + s) (2 * s))
theorem mocodez_3674 (b s : Nat) : xall (fun _ a => xBm a) 5 b s codez_3674 := And.intro (mocodez_3658 b (2 * s)) (mocodez_3673 (b + s) (2 * s))
theorem mocodez_3675 (b s : Nat) : xall (fun _ a => xBm a) 1 b s codez_3675 := And.intro mobz_103 mobz_2151
theorem mocodez_3676 (b s : Nat) : xall (fun _ a => xBm a) 1 b s codez_3676 := And.intro mobz_1127 mobz_no
theorem mocodez_3677 (b s : Nat) : xall (fun _ a => xBm a) 2 b s codez_3677 := And.intro (mocodez_3675 b (2 * s)) (mocodez_3676 (b + s) (2 * s))
theorem mocodez_3678 (b s : Nat) : xall (fun _ a => xBm a) 1 b s codez_3678 := And.intro mobz_615 mobz_no
theorem mocodez_3679 (b s : Nat) : xall (fun _ a => xBm a) 1 b s codez_3679 := And.intro mobz_1639 mobz_no
theorem mocodez_3680 (b s : Nat) : xall (fun _ a => xBm a) 2 b s codez_3680 := And.intro (mocodez_3678 b (2 * s)) (mocodez_3679 (b + s) (2 * s))
theorem mocodez_3681 (b s : Nat) : xall (fun _ a => xBm a) 3 b s codez_3681 := And.intro (mocodez_3677 b (2 * s)) (mocodez_3680 (b + s) (2 * s))
theorem mocodez_3682 (b s : Nat) : xall (fun _ a => xBm a) 1 b s codez_3682 := And.intro mobz_359 mobz_2407
theorem mocodez_3683 (b s : Nat) : xall (fun _ a => xBm a) 1 b s codez_3683 := And.intro mobz_1383 mobz_no
theorem mocodez_3684 (b s : Nat) : xall (fun _ a => xBm a) 2 b s codez_3684 := And.intro (mocodez_3682 b (2 * s)) (mocodez_3683 (b + s) (2 * s))
theorem mocodez_3685 (b s : Nat) : xall (fun _ a => xBm a) 1 b s codez_3685 := And.intro mobz_871 mobz_no
theorem mocodez_3686 (b s : Nat) : xall (fun _ a => xBm a) 1 b s codez_3686 := And.intro mobz_1895 mobz_no
theorem mocodez_3687 (b s : Nat) : xall (fun _ a => xBm a) 2 b s codez_3687 := And.intro (mocodez_3685 b (2 * s)) (mocodez_3686 (b + s) (2 * s))
theorem mocodez_3688 (b s : Nat) : xall (fun _ a => xBm a) 3 b s codez_3688 := And.intro (mocodez_3684 b (2 * s)) (mocodez_3687 (b + s) (2 * s))
theorem mocodez_3689 (b s : Nat) : xall (fun _ a => xBm a) 4 b s codez_3689 := And.intro (mocodez_3681 b (2 * s)) (mocodez_3688 (b + s) (2 * s))
theorem mocodez_3690 (b s : Nat) : xall (fun _ a => xBm a) 1 b s codez_3690 := And.intro mobz_231 mobz_2279
theorem mocodez_3691 (b s : Nat) : xall (fun _ a => xBm a) 1 b s codez_3691 := And.intro mobz_1255 mobz_no
theorem mocodez_3692 (b s : Nat) : xall (fun _ a => xBm a) 2 b s codez_3692 := And.intro (mocodez_3690 b (2 * s)) (mocodez_3691 (b + s) (2 * s))
theorem mocodez_3693 (b s : Nat) : xall (fun _ a => xBm a) 1 b s codez_3693 := And.intro mobz_743 mobz_no
theorem mocodez_3694 (b s : Nat) : xall (fun _ a => xBm a) 1 b s codez_3694 := And.intro mobz_1767 mobz_no
theorem mocodez_3695 (b s : Nat) : xall (fun _ a => xBm a) 2 b s codez_3695 := And.intro (mocodez_3693 b (2 * s)) (mocodez_3694 (b + s) (2 * s))
theorem mocodez_3696 (b s : Nat) : xall (fun _ a => xBm a) 3 b s codez_3696 := And.intro (mocodez_3692 b (2 * s)) (mocodez_3695 (b + s) (2 * s))
theorem mocodez_3697 (b s : Nat) : xall (fun _ a => xBm a) 1 b s codez_3697 := And.intro mobz_487 mobz_2535
theorem mocodez_3698 (b s : Nat) : xall (fun _ a => xBm a) 1 b s codez_3698 := And.intro mobz_1511 mobz_no
theorem mocodez_3699 (b s : Nat) : xall (fun _ a => xBm a) 2 b s codez_3699 := And.intro (mocodez_3697 b (2 * s)) (mocodez_3698 (b + s) (2 * s))
theorem mocodez_3700 (b s : Nat) : xall (fun _ a => xBm a) 1 b s codez_3700 := And.intro mobz_999 mobz_no
theorem mocodez_3701 (b s : Nat) : xall (fun _ a => xBm a) 1 b s codez_3701 := And.intro mobz_2023 mobz_no
theorem mocodez_3702 (b s : Nat) : xall (fun _ a => xBm a) 2 b s codez_3702 := And.intro (mocodez_3700 b (2 * s)) (mocodez_3701 (b + s) (2 * s))
theorem mocodez_3703 (b s : Nat) : xall (fun _ a => xBm a) 3 b s codez_3703 := And.intro (mocodez_3699 b (2 * s)) (mocodez_3702 (b + s) (2 * s))
theorem mocodez_3704 (b s : Nat) : xall (fun _ a => xBm a) 4 b s codez_3704 := And.intro (mocodez_3696 b (2 * s)) (mocodez_3703 (b + s) (2 * s))
theorem mocodez_3705 (b s : Nat) : xall (fun _ a => xBm a) 5 b s codez_3705 := And.intro (mocodez_3689 b (2 * s)) (mocodez_3704 (b + s) (2 * s))
theorem mocodez_3706 (b s : Nat) : xall (fun _ a => xBm a) 6 b s codez_3706 := And.intro (mocodez_3674 b (2 * s)) (mocodez_3705 (b + s) (2 * s))
theorem mocodez_3707 (b s : Nat) : xall (fun _ a => xBm a) 7 b s codez_3707 := And.intro (mocodez_3643 b (2 * s)) (mocodez_3706 (b + s) (2 * s))
theorem mocodez_3708 (b s : Nat) : xall (fun _ a => xBm a) 1 b s codez_3708 := And.intro mobz_23 mobz_2071
theorem mocodez_3709 (b s : Nat) : xall (fun _ a => xBm a) 1 b s codez_3709 := And.intro mobz_1047 mobz_no
theorem mocodez_3710 (b s : Nat) : xall (fun _ a => xBm a) 2 b s codez_3710 := And.intro (mocodez_3708 b (2 * s)) (mocodez_3709 (b + s) (2 * s))
theorem mocodez_3711 (b s : Nat) : xall (fun _ a => xBm a) 1 b s codez_3711 := And.intro mobz_535 mobz_no
theorem mocodez_3712 (b s : Nat) : xall (fun _ a => xBm a) 1 b s codez_3712 := And.intro mobz_1559 mobz_no
theorem mocodez_3713 (b s : Nat) : xall (fun _ a => xBm a) 2 b s codez_3713 := And.intro (mocodez_3711 b (2 * s)) (mocodez_3712 (b + s) (2 * s))
theorem mocodez_3714 (b s : Nat) : xall (fun _ a => xBm a) 3 b s codez_3714 := And.intro (mocodez_3710 b (2 * s)) (mocodez_3713 (b + s) (2 * s))
theorem mocodez_3715 (b s : Nat) : xall (fun _ a => xBm a) 1 b s codez_3715 := And.intro mobz_279 mobz_2327
theorem mocodez_3716 (b s : Nat) : xall (fun _ a => xBm a) 1 b s codez_3716 := And.intro mobz_1303 mobz_no
theorem mocodez_3717 (b s : Nat) : xall (fun _ a => xBm a) 2 b s codez_3717 := And.intro (mocodez_3715 b (2 * s)) (mocodez_3716 (b + s) (2 * s))
theorem mocodez_3718 (b s : Nat) : xall (fun _ a => xBm a) 1 b s codez_3718 := And.intro mobz_791 mobz_no
theorem mocodez_3719 (b s : Nat) : xall (fun _ a => xBm a) 1 b s codez_3719 := And.intro mobz_1815 mobz_no
theorem mocodez_3720 (b s : Nat) : xall (fun _ a => xBm a) 2 b s codez_3720 := And.intro (mocodez_3718 b (2 * s)) (mocodez_3719 (b + s) (2 * s))
theorem mocodez_3721 (b s : Nat) : xall (fun _ a => xBm a) 3 b s codez_3721 := And.intro (mocodez_3717 b (2 * s)) (mocodez_3720 (b + s) (2 * s))
theorem mocodez_3722 (b s : Nat) : xall (fun _ a => xBm a) 4 b s codez_3722 := And.intro (mocodez_3714 b (2 * s)) (mocodez_3721 (b + s) (2 * s))
theorem mocodez_3723 (b s : Nat) : xall (fun _ a => xBm a) 1 b s codez_3723 := And.intro mobz_151 mobz_2199
theorem mocodez_3724 (b s : Nat) : xall (fun _ a => xBm a) 1 b s codez_3724 := And.intro mobz_1175 mobz_no
theorem mocodez_3725 (b s : Nat) : xall (fun _ a => xBm a) 2 b s codez_3725 := And.intro (mocodez_3723 b (2 * s)) (mocodez_3724 (b + s) (2 * s))
theorem mocodez_3726 (b s : Nat) : xall (fun _ a => xBm a) 1 b s codez_3726 := And.intro mobz_663 mobz_no
theorem mocodez_3727 (b s : Nat) : xall (fun _ a => xBm a) 1 b s codez_3727 := And.intro mobz_1687 mobz_no
theorem mocodez_3728 (b s : Nat) : xall (fun _ a => xBm a) 2 b s codez_3728 := And.intro (mocodez_3726 b (2 * s)) (mocodez_3727 (b + s) (2 * s))
theorem mocodez_3729 (b s : Nat) : xall (fun _ a => xBm a) 3 b s codez_3729 := And.intro (mocodez_3725 b (2 * s)) (mocodez_3728 (b + s) (2 * s))
theorem mocodez_3730 (b s : Nat) : xall (fun _ a => xBm a) 1 b s codez_3730 := And.intro mobz_407 mobz_2455
theorem mocodez_3731 (b s : Nat) : xall (fun _ a => xBm a) 1 b s codez_3731 := And.intro mobz_1431 mobz_no
theorem mocodez_3732 (b s : Nat) : xall (fun _ a => xBm a) 2 b s codez_3732 := And.intro (mocodez_3730 b (2 * s)) (mocodez_3731 (b + s) (2 * s))
theorem mocodez_3733 (b s : Nat) : xall (fun _ a => xBm a) 1 b s codez_3733 := And.intro mobz_919 mobz_no
theorem mocodez_3734 (b s : Nat) : xall (fun _ a => xBm a) 1 b s codez_3734 := And.intro mobz_1943 mobz_no
theorem mocodez_3735 (b s : Nat) : xall (fun _ a => xBm a) 2 b s codez_3735 := And.intro (mocodez_3733 b (2 * s)) (mocodez_3734 (b + s) (2 * s))
theorem mocodez_3736 (b s : Nat) : xall (fun _ a => xBm a) 3 b s codez_3736 := And.intro (mocodez_3732 b (2 * s)) (mocodez_3735 (b + s) (2 * s))
theorem mocodez_3737 (b s : Nat) : xall (fun _ a => xBm a) 4 b s codez_3737 := And.intro (mocodez_3729 b (2 * s)) (mocodez_3736 (b + s) (2 * s))
theorem mocodez_3738 (b s : Nat) : xall (fun _ a => xBm a) 5 b s codez_3738 := And.intro (mocodez_3722 b (2 * s)) (mocodez_3737 (b + s) (2 * s))
theorem mocodez_3739 (b s : Nat) : xall (fun _ a => xBm a) 1 b s codez_3739 := And.intro mobz_87 mobz_2135
theorem mocodez_3740 (b s : Nat) : xall (fun _ a => xBm a) 1 b s codez_3740 := And.intro mobz_1111 mobz_no
theorem mocodez_3741 (b s : Nat) : xall (fun _ a => xBm a) 2 b s codez_3741 := And.intro (mocodez_3739 b (2 * s)) (mocodez_3740 (b + s) (2 * s))
theorem mocodez_3742 (b s : Nat) : xall (fun _ a => xBm a) 1 b s codez_3742 := And.intro mobz_599 mobz_no
theorem mocodez_3743 (b s : Nat) : xall (fun _ a => xBm a) 1 b s codez_3743 := And.intro mobz_1623 mobz_no
theorem mocodez_3744 (b s : Nat) : xall (fun _ a => xBm a) 2 b s codez_3744 := And.intro (mocodez_3742 b (2 * s)) (mocodez_3743 (b + s) (2 * s))
theorem mocodez_3745 (b s : Nat) : xall (fun _ a => xBm a) 3 b s codez_3745 := And.intro (mocodez_3741 b (2 * s)) (mocodez_3744 (b + s) (2 * s))
theorem mocodez_3746 (b s : Nat) : xall (fun _ a => xBm a) 1 b s codez_3746 := And.intro mobz_343 mobz_2391
theorem mocodez_3747 (b s : Nat) : xall (fun _ a => xBm a) 1 b s codez_3747 := And.intro mobz_1367 mobz_no
theorem mocodez_3748 (b s : Nat) : xall (fun _ a => xBm a) 2 b s codez_3748 := And.intro (mocodez_3746 b (2 * s)) (mocodez_3747 (b + s) (2 * s))
theorem mocodez_3749 (b s : Nat) : xall (fun _ a => xBm a) 1 b s codez_3749 := And.intro mobz_855 mobz_no
theorem mocodez_3750 (b s : Nat) : xall (fun _ a => xBm a) 1 b s codez_3750 := And.intro mobz_1879 mobz_no
theorem mocodez_3751 (b s : Nat) : xall (fun _ a => xBm a) 2 b s codez_3751 := And.intro (mocodez_3749 b (2 * s)) (mocodez_3750 (b + s) (2 * s))
theorem mocodez_3752 (b s : Nat) : xall (fun _ a => xBm a) 3 b s codez_3752 := And.intro (mocodez_3748 b (2 * s)) (mocodez_3751 (b + s) (2 * s))
theorem mocodez_3753 (b s : Nat) : xall (fun _ a => xBm a) 4 b s codez_3753 := And.intro (mocodez_3745 b (2 * s)) (mocodez_3752 (b + s) (2 * s))
theorem mocodez_3754 (b s : Nat) : xall (fun _ a => xBm a) 1 b s codez_3754 := And.intro mobz_215 mobz_2263
theorem mocodez_3755 (b s : Nat) : xall (fun _ a => xBm a) 1 b s codez_3755 := And.intro mobz_1239 mobz_no
theorem mocodez_3756 (b s : Nat) : xall (fun _ a => xBm a) 2 b s codez_3756 := And.intro (mocodez_3754 b (2 * s)) (mocodez_3755 (b + s) (2 * s))
theorem mocodez_3757 (b s : Nat) : xall (fun _ a => xBm a) 1 b s codez_3757 := And.intro mobz_727 mobz_no
theorem mocodez_3758 (b s : Nat) : xall (fun _ a => xBm a) 1 b s codez_3758 := And.intro mobz_1751 mobz_no
theorem mocodez_3759 (b s : Nat) : xall (fun _ a => xBm a) 2 b s codez_3759 := And.intro (mocodez_3757 b (2 * s)) (mocodez_3758 (b + s) (2 * s))
theorem mocodez_3760 (b s : Nat) : xall (fun _ a => xBm a) 3 b s codez_3760 := And.intro (mocodez_3756 b (2 * s)) (mocodez_3759 (b + s) (2 * s))
theorem mocodez_3761 (b s : Nat) : xall (fun _ a => xBm a) 1 b s codez_3761 := And.intro mobz_471 mobz_2519
theorem mocodez_3762 (b s : Nat) : xall (fun _ a => xBm a) 1 b s codez_3762 := And.intro mobz_1495 mobz_no
theorem mocodez_3763 (b s : Nat) : xall (fun _ a => xBm a) 2 b s codez_3763 := And.intro (mocodez_3761 b (2 * s)) (mocodez_3762 (b + s) (2 * s))
theorem mocodez_3764 (b s : Nat) : xall (fun _ a => xBm a) 1 b s codez_3764 := And.intro mobz_983 mobz_no
theorem mocodez_3765 (b s : Nat) : xall (fun _ a => xBm a) 1 b s codez_3765 := And.intro mobz_2007 mobz_no
theorem mocodez_3766 (b s : Nat) : xall (fun _ a => xBm a) 2 b s codez_3766 := And.intro (mocodez_3764 b (2 * s)) (mocodez_3765 (b + s) (2 * s))
theorem mocodez_3767 (b s : Nat) : xall (fun _ a => xBm a) 3 b s codez_3767 := And.intro (mocodez_3763 b (2 * s)) (mocodez_3766 (b + s) (2 * s))
theorem mocodez_3768 (b s : Nat) : xall (fun _ a => xBm a) 4 b s codez_3768 := And.intro (mocodez_3760 b (2 * s)) (mocodez_3767 (b + s) (2 * s))
theorem mocodez_3769 (b s : Nat) : xall (fun _ a => xBm a) 5 b s codez_3769 := And.intro (mocodez_3753 b (2 * s)) (mocodez_3768 (b + s) (2 * s))
theorem mocodez_3770 (b s : Nat) : xall (fun _ a => xBm a) 6 b s codez_3770 := And.intro (mocodez_3738 b (2 * s)) (mocodez_3769 (b + s) (2 * s))
theorem mocodez_3771 (b s : Nat) : xall (fun _ a => xBm a) 1 b s codez_3771 := And.intro mobz_55 mobz_2103
theorem mocodez_3772 (b s : Nat) : xall (fun _ a => xBm a) 1 b s codez_3772 := And.intro mobz_1079 mobz_no
theorem mocodez_3773 (b s : Nat) : xall (fun _ a => xBm a) 2 b s codez_3773 := And.intro (mocodez_3771 b (2 * s)) (mocodez_3772 (b + s) (2 * s))
theorem mocodez_3774 (b s : Nat) : xall (fun _ a => xBm a) 1 b s codez_3774 := And.intro mobz_567 mobz_no
theorem mocodez_3775 (b s : Nat) : xall (fun _ a => xBm a) 1 b s codez_3775 := And.intro mobz_1591 mobz_no
theorem mocodez_3776 (b s : Nat) : xall (fun _ a => xBm a) 2 b s codez_3776 := And.intro (mocodez_3774 b (2 * s)) (mocodez_3775 (b + s) (2 * s))
theorem mocodez_3777 (b s : Nat) : xall (fun _ a => xBm a) 3 b s codez_3777 := And.intro (mocodez_3773 b (2 * s)) (mocodez_3776 (b + s) (2 * s))
theorem mocodez_3778 (b s : Nat) : xall (fun _ a => xBm a) 1 b s codez_3778 := And.intro mobz_311 mobz_2359
theorem mocodez_3779 (b s : Nat) : xall (fun _ a => xBm a) 1 b s codez_3779 := And.intro mobz_1335 mobz_no
theorem mocodez_3780 (b s : Nat) : xall (fun _ a => xBm a) 2 b s codez_3780 := And.intro (mocodez_3778 b (2 * s)) (mocodez_3779 (b + s) (2 * s))
theorem mocodez_3781 (b s : Nat) : xall (fun _ a => xBm a) 1 b s codez_3781 := And.intro mobz_823 mobz_no
theorem mocodez_3782 (b s : Nat) : xall (fun _ a => xBm a) 1 b s codez_3782 := And.intro mobz_1847 mobz_no
theorem mocodez_3783 (b s : Nat) : xall (fun _ a => xBm a) 2 b s codez_3783 := And.intro (mocodez_3781 b (2 * s)) (mocodez_3782 (b + s) (2 * s))
theorem mocodez_3784 (b s : Nat) : xall (fun _ a => xBm a) 3 b s codez_3784 := And.intro (mocodez_3780 b (2 * s)) (mocodez_3783 (b + s) (2 * s))
theorem mocodez_3785 (b s : Nat) : xall (fun _ a => xBm a) 4 b s codez_3785 := And.intro (mocodez_3777 b (2 * s)) (mocodez_3784 (b + s) (2 * s))
theorem mocodez_3786 (b s : Nat) : xall (fun _ a => xBm a) 1 b s codez_3786 := And.intro mobz_183 mobz_2231
theorem mocodez_3787 (b s : Nat) : xall (fun _ a => xBm a) 1 b s codez_3787 := And.intro mobz_1207 mobz_no
theorem mocodez_3788 (b s : Nat) : xall (fun _ a => xBm a) 2 b s codez_3788 := And.intro (mocodez_3786 b (2 * s)) (mocodez_3787 (b + s) (2 * s))
theorem mocodez_3789 (b s : Nat) : xall (fun _ a => xBm a) 1 b s codez_3789 := And.intro mobz_695 mobz_no
theorem mocodez_3790 (b s : Nat) : xall (fun _ a => xBm a) 1 b s codez_3790 := And.intro mobz_1719 mobz_no
theorem mocodez_3791 (b s : Nat) : xall (fun _ a => xBm a) 2 b s codez_3791 := And.intro (mocodez_3789 b (2 * s)) (mocodez_3790 (b + s) (2 * s))
theorem mocodez_3792 (b s : Nat) : xall (fun _ a => xBm a) 3 b s codez_3792 := And.intro (mocodez_3788 b (2 * s)) (mocodez_3791 (b + s) (2 * s))
theorem mocodez_3793 (b s : Nat) : xall (fun _ a => xBm a) 1 b s codez_3793 := And.intro mobz_439 mobz_2487
theorem mocodez_3794 (b s : Nat) : xall (fun _ a => xBm a) 1 b s codez_3794 := And.intro mobz_1463 mobz_no
theorem mocodez_3795 (b s : Nat) : xall (fun _ a => xBm a) 2 b s codez_3795 := And.intro (mocodez_3793 b (2 * s)) (mocodez_3794 (b + s) (2 * s))
theorem mocodez_3796 (b s : Nat) : xall (fun _ a => xBm a) 1 b s codez_3796 := And.intro mobz_951 mobz_no
theorem mocodez_3797 (b s : Nat) : xall (fun _ a => xBm a) 1 b s codez_3797 := And.intro mobz_1975 mobz_no
theorem mocodez_3798 (b s : Nat) : xall (fun _ a => xBm a) 2 b s codez_3798 := And.intro (mocodez_3796 b (2 * s)) (mocodez_3797 (b + s) (2 * s))
theorem mocodez_3799 (b s : Nat) : xall (fun _ a => xBm a) 3 b s codez_3799 := And.intro (mocodez_3795 b (2 * s)) (mocodez_3798 (b + s) (2 * s))
theorem mocodez_3800 (b s : Nat) : xall (fun _ a => xBm a) 4 b s codez_3800 := And.intro (mocodez_3792 b (2 * s)) (mocodez_3799 (b + s) (2 * s))
theorem mocodez_3801 (b s : Nat) : xall (fun _ a => xBm a) 5 b s codez_3801 := And.intro (mocodez_3785 b (2 * s)) (mocodez_3800 (b + s) (2 * s))
theorem mocodez_3802 (b s : Nat) : xall (fun _ a => xBm a) 1 b s codez_3802 := And.intro mobz_119 mobz_2167
theorem mocodez_3803 (b s : Nat) : xall (fun _ a => xBm a) 1 b s codez_3803 := And.intro mobz_1143 mobz_no
theorem mocodez_3804 (b s : Nat) : xall (fun _ a => xBm a) 2 b s codez_3804 := And.intro (mocodez_3802 b (2 * s)) (mocodez_3803 (b + s) (2 * s))
theorem mocodez_3805 (b s : Nat) : xall (fun _ a => xBm a) 1 b s codez_3805 := And.intro mobz_631 mobz_no
theorem mocodez_3806 (b s : Nat) : xall (fun _ a => xBm a) 1 b s codez_3806 := And.intro mobz_1655 mobz_no
theorem mocodez_3807 (b s : Nat) : xall (fun _ a => xBm a) 2 b s codez_3807 := And.intro (mocodez_3805 b (2 * s)) (mocodez_3806 (b + s) (2 * s))
theorem mocodez_3808 (b s : Nat) : xall (fun _ a => xBm a) 3 b s codez_3808 := And.intro (mocodez_3804 b (2 * s)) (mocodez_3807 (b + s) (2 * s))
theorem mocodez_3809 (b s : Nat) : xall (fun _ a => xBm a) 1 b s codez_3809 := And.intro mobz_375 mobz_2423
theorem mocodez_3810 (b s : Nat) : xall (fun _ a => xBm a) 1 b s codez_3810 := And.intro mobz_1399 mobz_no
theorem mocodez_3811 (b s : Nat) : xall (fun _ a => xBm a) 2 b s codez_3811 := And.intro (mocodez_3809 b (2 * s)) (mocodez_3810 (b + s) (2 * s))
theorem mocodez_3812 (b s : Nat) : xall (fun _ a => xBm a) 1 b s codez_3812 := And.intro mobz_887 mobz_no
theorem mocodez_3813 (b s : Nat) : xall (fun _ a => xBm a) 1 b s codez_3813 := And.intro mobz_1911 mobz_no
theorem mocodez_3814 (b s : Nat) : xall (fun _ a => xBm a) 2 b s codez_3814 := And.intro (mocodez_3812 b (2 * s)) (mocodez_3813 (b + s) (2 * s))
theorem mocodez_3815 (b s : Nat) : xall (fun _ a => xBm a) 3 b s codez_3815 := And.intro (mocodez_3811 b (2 * s)) (mocodez_3814 (b + s) (2 * s))
theorem mocodez_3816 (b s : Nat) : xall (fun _ a => xBm a) 4 b s codez_3816 := And.intro (mocodez_3808 b (2 * s)) (mocodez_3815 (b + s) (2 * s))
theorem mocodez_3817 (b s : Nat) : xall (fun _ a => xBm a) 1 b s codez_3817 := And.intro mobz_247 mobz_2295
theorem mocodez_3818 (b s : Nat) : xall (fun _ a => xBm a) 1 b s codez_3818 := And.intro mobz_1271 mobz_no
theorem mocodez_3819 (b s : Nat) : xall (fun _ a => xBm a) 2 b s codez_3819 := And.intro (mocodez_3817 b (2 * s)) (mocodez_3818 (b + s) (2 * s))
theorem mocodez_3820 (b s : Nat) : xall (fun _ a => xBm a) 1 b s codez_3820 := And.intro mobz_759 mobz_no
theorem mocodez_3821 (b s : Nat) : xall (fun _ a => xBm a) 1 b s codez_3821 := And.intro mobz_1783 mobz_no
theorem mocodez_3822 (b s : Nat) : xall (fun _ a => xBm a) 2 b s codez_3822 := And.intro (mocodez_3820 b (2 * s)) (mocodez_3821 (b + s) (2 * s))
theorem mocodez_3823 (b s : Nat) : xall (fun _ a => xBm a) 3 b s codez_3823 := And.intro (mocodez_3819 b (2 * s)) (mocodez_3822 (b + s) (2 * s))
theorem mocodez_3824 (b s : Nat) : xall (fun _ a => xBm a) 1 b s codez_3824 := And.intro mobz_503 mobz_no
theorem mocodez_3825 (b s : Nat) : xall (fun _ a => xBm a) 1 b s codez_3825 := And.intro mobz_1527 mobz_no
theorem mocodez_3826 (b s : Nat) : xall (fun _ a => xBm a) 2 b s codez_3826 := And.intro (mocodez_3824 b (2 * s)) (mocodez_3825 (b + s) (2 * s))
theorem mocodez_3827 (b s : Nat) : xall (fun _ a => xBm a) 1 b s codez_3827 := And.intro mobz_1015 mobz_no
theorem mocodez_3828 (b s : Nat) : xall (fun _ a => xBm a) 1 b s codez_3828 := And.intro mobz_2039 mobz_no
theorem mocodez_3829 (b s : Nat) : xall (fun _ a => xBm a) 2 b s codez_3829 := And.intro (mocodez_3827 b (2 * s)) (mocodez_3828 (b + s) (2 * s))
theorem mocodez_3830 (b s : Nat) : xall (fun _ a => xBm a) 3 b s codez_3830 := And.intro (mocodez_3826 b (2 * s)) (mocodez_3829 (b + s) (2 * s))
theorem mocodez_3831 (b s : Nat) : xall (fun _ a => xBm a) 4 b s codez_3831 := And.intro (mocodez_3823 b (2 * s)) (mocodez_3830 (b + s) (2 * s))
theorem mocodez_3832 (b s : Nat) : xall (fun _ a => xBm a) 5 b s codez_3832 := And.intro (mocodez_3816 b (2 * s)) (mocodez_3831 (b + s) (2 * s))
theorem mocodez_3833 (b s : Nat) : xall (fun _ a => xBm a) 6 b s codez_3833 := And.intro (mocodez_3801 b (2 * s)) (mocodez_3832 (b + s) (2 * s))
theorem mocodez_3834 (b s : Nat) : xall (fun _ a => xBm a) 7 b s codez_3834 := And.intro (mocodez_3770 b (2 * s)) (mocodez_3833 (b + s) (2 * s))
theorem mocodez_3835 (b s : Nat) : xall (fun _ a => xBm a) 8 b s codez_3835 := And.intro (mocodez_3707 b (2 * s)) (mocodez_3834 (b + s) (2 * s))
theorem mocodez_3836 (b s : Nat) : xall (fun _ a => xBm a) 1 b s codez_3836 := And.intro mobz_15 mobz_2063
theorem mocodez_3837 (b s : Nat) : xall (fun _ a => xBm a) 1 b s codez_3837 := And.intro mobz_1039 mobz_no
theorem mocodez_3838 (b s : Nat) : xall (fun _ a => xBm a) 2 b s codez_3838 := And.intro (mocodez_3836 b (2 * s)) (mocodez_3837 (b + s) (2 * s))
theorem mocodez_3839 (b s : Nat) : xall (fun _ a => xBm a) 1 b s codez_3839 := And.intro mobz_527 mobz_no
theorem mocodez_3840 (b s : Nat) : xall (fun _ a => xBm a) 1 b s codez_3840 := And.intro mobz_1551 mobz_no
theorem mocodez_3841 (b s : Nat) : xall (fun _ a => xBm a) 2 b s codez_3841 := And.intro (mocodez_3839 b (2 * s)) (mocodez_3840 (b + s) (2 * s))
theorem mocodez_3842 (b s : Nat) : xall (fun _ a => xBm a) 3 b s codez_3842 := And.intro (mocodez_3838 b (2 * s)) (mocodez_3841 (b + s) (2 * s))
theorem mocodez_3843 (b s : Nat) : xall (fun _ a => xBm a) 1 b s codez_3843 := And.intro mobz_271 mobz_2319
theorem mocodez_3844 (b s : Nat) : xall (fun _ a => xBm a) 1 b s codez_3844 := And.intro mobz_1295 mobz_no
theorem mocodez_3845 (b s : Nat) : xall (fun _ a => xBm a) 2 b s codez_3845 := And.intro (mocodez_3843 b (2 * s)) (mocodez_3844 (b + s) (2 * s))
theorem mocodez_3846 (b s : Nat) : xall (fun _ a => xBm a) 1 b s codez_3846 := And.intro mobz_783 mobz_no
theorem mocodez_3847 (b s : Nat) : xall (fun _ a => xBm a) 1 b s codez_3847 := And.intro mobz_1807 mobz_no
theorem mocodez_3848 (b s : Nat) : xall (fun _ a => xBm a) 2 b s codez_3848 := And.intro (mocodez_3846 b (2 * s)) (mocodez_3847 (b + s) (2 * s))
theorem mocodez_3849 (b s : Nat) : xall (fun _ a => xBm a) 3 b s codez_3849 := And.intro (mocodez_3845 b (2 * s)) (mocodez_3848 (b + s) (2 * s))
theorem mocodez_3850 (b s : Nat) : xall (fun _ a => xBm a) 4 b s codez_3850 := And.intro (mocodez_3842 b (2 * s)) (mocodez_3849 (b + s) (2 * s))
theorem mocodez_3851 (b s : Nat) : xall (fun _ a => xBm a) 1 b s codez_3851 := And.intro mobz_143 mobz_2191
theorem mocodez_3852 (b s : Nat) : xall (fun _ a => xBm a) 1 b s codez_3852 := And.intro mobz_1167 mobz_no
theorem mocodez_3853 (b s : Nat) : xall (fun _ a => xBm a) 2 b s codez_3853 := And.intro (mocodez_3851 b (2 * s)) (mocodez_3852 (b + s) (2 * s))
theorem mocodez_3854 (b s : Nat) : xall (fun _ a => xBm a) 1 b s codez_3854 := And.intro mobz_655 mobz_no
theorem mocodez_3855 (b s : Nat) : xall (fun _ a => xBm a) 1 b s codez_3855 := And.intro mobz_1679 mobz_no
theorem mocodez_3856 (b s : Nat) : xall (fun _ a => xBm a) 2 b s codez_3856 := And.intro (mocodez_3854 b (2 * s)) (mocodez_3855 (b + s) (2 * s))
theorem mocodez_3857 (b s : Nat) : xall (fun _ a => xBm a) 3 b s codez_3857 := And.intro (mocodez_3853 b (2 * s)) (mocodez_3856 (b + s) (2 * s))
theorem mocodez_3858 (b s : Nat) : xall (fun _ a => xBm a) 1 b s codez_3858 := And.intro mobz_399 mobz_2447
theorem mocodez_3859 (b s : Nat) : xall (fun _ a => xBm a) 1 b s codez_3859 := And.intro mobz_1423 mobz_no
theorem mocodez_3860 (b s : Nat) : xall (fun _ a => xBm a) 2 b s codez_3860 := And.intro (mocodez_3858 b (2 * s)) (mocodez_3859 (b + s) (2 * s))
theorem mocodez_3861 (b s : Nat) : xall (fun _ a => xBm a) 1 b s codez_3861 := And.intro mobz_911 mobz_no
theorem mocodez_3862 (b s : Nat) : xall (fun _ a => xBm a) 1 b s codez_3862 := And.intro mobz_1935 mobz_no
theorem mocodez_3863 (b s : Nat) : xall (fun _ a => xBm a) 2 b s codez_3863 := And.intro (mocodez_3861 b (2 * s)) (mocodez_3862 (b + s) (2 * s))
theorem mocodez_3864 (b s : Nat) : xall (fun _ a => xBm a) 3 b s codez_3864 := And.intro (mocodez_3860 b (2 * s)) (mocodez_3863 (b + s) (2 * s))
theorem mocodez_3865 (b s : Nat) : xall (fun _ a => xBm a) 4 b s codez_3865 := And.intro (mocodez_3857 b (2 * s)) (mocodez_3864 (b + s) (2 * s))
theorem mocodez_3866 (b s : Nat) : xall (fun _ a => xBm a) 5 b s codez_3866 := And.intro (mocodez_3850 b (2 * s)) (mocodez_3865 (b + s) (2 * s))
theorem mocodez_3867 (b s : Nat) : xall (fun _ a => xBm a) 1 b s codez_3867 := And.intro mobz_79 mobz_2127
theorem mocodez_3868 (b s : Nat) : xall (fun _ a => xBm a) 1 b s codez_3868 := And.intro mobz_1103 mobz_no
theorem mocodez_3869 (b s : Nat) : xall (fun _ a => xBm a) 2 b s codez_3869 := And.intro (mocodez_3867 b (2 * s)) (mocodez_3868 (b + s) (2 * s))
theorem mocodez_3870 (b s : Nat) : xall (fun _ a => xBm a) 1 b s codez_3870 := And.intro mobz_591 mobz_no
theorem mocodez_3871 (b s : Nat) : xall (fun _ a => xBm a) 1 b s codez_3871 := And.intro mobz_1615 mobz_no
theorem mocodez_3872 (b s : Nat) : xall (fun _ a => xBm a) 2 b s codez_3872 := And.intro (mocodez_3870 b (2 * s)) (mocodez_3871 (b + s) (2 * s))
theorem mocodez_3873 (b s : Nat) : xall (fun _ a => xBm a) 3 b s codez_3873 := And.intro (mocodez_3869 b (2 * s)) (mocodez_3872 (b + s) (2 * s))
theorem mocodez_3874 (b s : Nat) : xall (fun _ a => xBm a) 1 b s codez_3874 := And.intro mobz_335 mobz_2383
theorem mocodez_3875 (b s : Nat) : xall (fun _ a => xBm a) 1 b s codez_3875 := And.intro mobz_1359 mobz_no
theorem mocodez_3876 (b s : Nat) : xall (fun _ a => xBm a) 2 b s codez_3876 := And.intro (mocodez_3874 b (2 * s)) (mocodez_3875 (b + s) (2 * s))
theorem mocodez_3877 (b s : Nat) : xall (fun _ a => xBm a) 1 b s codez_3877 := And.intro mobz_847 mobz_no
theorem mocodez_3878 (b s : Nat) : xall (fun _ a => xBm a) 1 b s codez_3878 := And.intro mobz_1871 mobz_no
theorem mocodez_3879 (b s : Nat) : xall (fun _ a => xBm a) 2 b s codez_3879 := And.intro (mocodez_3877 b (2 * s)) (mocodez_3878 (b + s) (2 * s))
theorem mocodez_3880 (b s : Nat) : xall (fun _ a => xBm a) 3 b s codez_3880 := And.intro (mocodez_3876 b (2 * s)) (mocodez_3879 (b + s) (2 * s))
theorem mocodez_3881 (b s : Nat) : xall (fun _ a => xBm a) 4 b s codez_3881 := And.intro (mocodez_3873 b (2 * s)) (mocodez_3880 (b + s) (2 * s))
theorem mocodez_3882 (b s : Nat) : xall (fun _ a => xBm a) 1 b s codez_3882 := And.intro mobz_207 mobz_2255
theorem mocodez_3883 (b s : Nat) : xall (fun _ a => xBm a) 1 b s codez_3883 := And.intro mobz_1231 mobz_no
theorem mocodez_3884 (b s : Nat) : xall (fun _ a => xBm a) 2 b s codez_3884 := And.intro (mocodez_3882 b (2 * s)) (mocodez_3883 (b + s) (2 * s))
theorem mocodez_3885 (b s : Nat) : xall (fun _ a => xBm a) 1 b s codez_3885 := And.intro mobz_719 mobz_no
theorem mocodez_3886 (b s : Nat) : xall (fun _ a => xBm a) 1 b s codez_3886 := And.intro mobz_1743 mobz_no
theorem mocodez_3887 (b s : Nat) : xall (fun _ a => xBm a) 2 b s codez_3887 := And.intro (mocodez_3885 b (2 * s)) (mocodez_3886 (b + s) (2 * s))
theorem mocodez_3888 (b s : Nat) : xall (fun _ a => xBm a) 3 b s codez_3888 := And.intro (mocodez_3884 b (2 * s)) (mocodez_3887 (b + s) (2 * s))
theorem mocodez_3889 (b s : Nat) : xall (fun _ a => xBm a) 1 b s codez_3889 := And.intro mobz_463 mobz_2511
theorem mocodez_3890 (b s : Nat) : xall (fun _ a => xBm a) 1 b s codez_3890 := And.intro mobz_1487 mobz_no
theorem mocodez_3891 (b s : Nat) : xall (fun _ a => xBm a) 2 b s codez_3891 := And.intro (mocodez_3889 b (2 * s)) (mocodez_3890 (b + s) (2 * s))
theorem mocodez_3892 (b s : Nat) : xall (fun _ a => xBm a) 1 b s codez_3892 := And.intro mobz_975 mobz_no
theorem mocodez_3893 (b s : Nat) : xall (fun _ a => xBm a) 1 b s codez_3893 := And.intro mobz_1999 mobz_no
theorem mocodez_3894 (b s : Nat) : xall (fun _ a => xBm a) 2 b s codez_3894 := And.intro (mocodez_3892 b (2 * s)) (mocodez_3893 (b + s) (2 * s))
theorem mocodez_3895 (b s : Nat) : xall (fun _ a => xBm a) 3 b s codez_3895 := And.intro (mocodez_3891 b (2 * s)) (mocodez_3894 (b + s) (2 * s))
theorem mocodez_3896 (b s : Nat) : xall (fun _ a => xBm a) 4 b s codez_3896 := And.intro (mocodez_3888 b (2 * s)) (mocodez_3895 (b + s) (2 * s))
theorem mocodez_3897 (b s : Nat) : xall (fun _ a => xBm a) 5 b s codez_3897 := And.intro (mocodez_3881 b (2 * s)) (mocodez_3896 (b + s) (2 * s))
theorem mocodez_3898 (b s : Nat) : xall (fun _ a => xBm a) 6 b s codez_3898 := And.intro (mocodez_3866 b (2 * s)) (mocodez_3897 (b + s) (2 * s))
theorem mocodez_3899 (b s : Nat) : xall (fun _ a => xBm a) 1 b s codez_3899 := And.intro mobz_47 mobz_2095
theorem mocodez_3900 (b s : Nat) : xall (fun _ a => xBm a) 1 b s codez_3900 := And.intro mobz_1071 mobz_no
theorem mocodez_3901 (b s : Nat) : xall (fun _ a => xBm a) 2 b s codez_3901 := And.intro (mocodez_3899 b (2 * s)) (mocodez_3900 (b + s) (2 * s))
theorem mocodez_3902 (b s : Nat) : xall (fun _ a => xBm a) 1 b s codez_3902 := And.intro mobz_559 mobz_no
theorem mocodez_3903 (b s : Nat) : xall (fun _ a => xBm a) 1 b s codez_3903 := And.intro mobz_1583 mobz_no
theorem mocodez_3904 (b s : Nat) : xall (fun _ a => xBm a) 2 b s codez_3904 := And.intro (mocodez_3902 b (2 * s)) (mocodez_3903 (b + s) (2 * s))
theorem mocodez_3905 (b s : Nat) : xall (fun _ a => xBm a) 3 b s codez_3905 := And.intro (mocodez_3901 b (2 * s)) (mocodez_3904 (b + s) (2 * s))
theorem mocodez_3906 (b s : Nat) : xall (fun _ a => xBm a) 1 b s codez_3906 := And.intro mobz_303 mobz_2351
theorem mocodez_3907 (b s : Nat) : xall (fun _ a => xBm a) 1 b s codez_3907 := And.intro mobz_1327 mobz_no
theorem mocodez_3908 (b s : Nat) : xall (fun _ a => xBm a) 2 b s codez_3908 := And.intro (mocodez_3906 b (2 * s)) (mocodez_3907 (b + s) (2 * s))
theorem mocodez_3909 (b s : Nat) : xall (fun _ a => xBm a) 1 b s codez_3909 := And.intro mobz_815 mobz_no
theorem mocodez_3910 (b s : Nat) : xall (fun _ a => xBm a) 1 b s codez_3910 := And.intro mobz_1839 mobz_no
theorem mocodez_3911 (b s : Nat) : xall (fun _ a => xBm a) 2 b s codez_3911 := And.intro (mocodez_3909 b (2 * s)) (mocodez_3910 (b + s) (2 * s))
theorem mocodez_3912 (b s : Nat) : xall (fun _ a => xBm a) 3 b s codez_3912 := And.intro (mocodez_3908 b (2 * s)) (mocodez_3911 (b + s) (2 * s))
theorem mocodez_3913 (b s : Nat) : xall (fun _ a => xBm a) 4 b s codez_3913 := And.intro (mocodez_3905 b (2 * s)) (mocodez_3912 (b + s) (2 * s))
theorem mocodez_3914 (b s : Nat) : xall (fun _ a => xBm a) 1 b s codez_3914 := And.intro mobz_175 mobz_2223
theorem mocodez_3915 (b s : Nat) : xall (fun _ a => xBm a) 1 b s codez_3915 := And.intro mobz_1199 mobz_no
theorem mocodez_3916 (b s : Nat) : xall (fun _ a => xBm a) 2 b s codez_3916 := And.intro (mocodez_3914 b (2 * s)) (mocodez_3915 (b + s) (2 * s))
theorem mocodez_3917 (b s : Nat) : xall (fun _ a => xBm a) 1 b s codez_3917 := And.intro mobz_687 mobz_no
theorem mocodez_3918 (b s : Nat) : xall (fun _ a => xBm a) 1 b s codez_3918 := And.intro mobz_1711 mobz_no
theorem mocodez_3919 (b s : Nat) : xall (fun _ a => xBm a) 2 b s codez_3919 := And.intro (mocodez_3917 b (2 * s)) (mocodez_3918 (b + s) (2 * s))
theorem mocodez_3920 (b s : Nat) : xall (fun _ a => xBm a) 3 b s codez_3920 := And.intro (mocodez_3916 b (2 * s)) (mocodez_3919 (b + s) (2 * s))
theorem mocodez_3921 (b s : Nat) : xall (fun _ a => xBm a) 1 b s codez_3921 := And.intro mobz_431 mobz_2479
theorem mocodez_3922 (b s : Nat) : xall (fun _ a => xBm a) 1 b s codez_3922 := And.intro mobz_1455 mobz_no
theorem mocodez_3923 (b s : Nat) : xall (fun _ a => xBm a) 2 b s codez_3923 := And.intro (mocodez_3921 b (2 * s)) (mocodez_3922 (b + s) (2 * s))
theorem mocodez_3924 (b s : Nat) : xall (fun _ a => xBm a) 1 b s codez_3924 := And.intro mobz_943 mobz_no
theorem mocodez_3925 (b s : Nat) : xall (fun _ a => xBm a) 1 b s codez_3925 := And.intro mobz_1967 mobz_no
theorem mocodez_3926 (b s : Nat) : xall (fun _ a => xBm a) 2 b s codez_3926 := And.intro (mocodez_3924 b (2 * s)) (mocodez_3925 (b + s) (2 * s))
theorem mocodez_3927 (b s : Nat) : xall (fun _ a => xBm a) 3 b s codez_3927 := And.intro (mocodez_3923 b (2 * s)) (mocodez_3926 (b + s) (2 * s))
theorem mocodez_3928 (b s : Nat) : xall (fun _ a => xBm a) 4 b s codez_3928 := And.intro (mocodez_3920 b (2 * s)) (mocodez_3927 (b + s) (2 * s))
theorem mocodez_3929 (b s : Nat) : xall (fun _ a => xBm a) 5 b s codez_3929 := And.intro (mocodez_3913 b (2 * s)) (mocodez_3928 (b + s) (2 * s))
theorem mocodez_3930 (b s : Nat) : xall (fun _ a => xBm a) 1 b s codez_3930 := And.intro mobz_111 mobz_2159
theorem mocodez_3931 (b s : Nat) : xall (fun _ a => xBm a) 1 b s codez_3931 := And.intro mobz_1135 mobz_no
theorem mocodez_3932 (b s : Nat) : xall (fun _ a => xBm a) 2 b s codez_3932 := And.intro (mocodez_3930 b (2 * s)) (mocodez_3931 (b + s) (2 * s))
theorem mocodez_3933 (b s : Nat) : xall (fun _ a => xBm a) 1 b s codez_3933 := And.intro mobz_623 mobz_no
theorem mocodez_3934 (b s : Nat) : xall (fun _ a => xBm a) 1 b s codez_3934 := And.intro mobz_1647 mobz_no
theorem mocodez_3935 (b s : Nat) : xall (fun _ a => xBm a) 2 b s codez_3935 := And.intro (mocodez_3933 b (2 * s)) (mocodez_3934 (b + s) (2 * s))
theorem mocodez_3936 (b s : Nat) : xall (fun _ a => xBm a) 3 b s codez_3936 := And.intro (mocodez_3932 b (2 * s)) (mocodez_3935 (b + s) (2 * s))
theorem mocodez_3937 (b s : Nat) : xall (fun _ a => xBm a) 1 b s codez_3937 := And.intro mobz_367 mobz_2415
theorem mocodez_3938 (b s : Nat) : xall (fun _ a => xBm a) 1 b s codez_3938 := And.intro mobz_1391 mobz_no
theorem mocodez_3939 (b s : Nat) : xall (fun _ a => xBm a) 2 b s codez_3939 := And.intro (mocodez_3937 b (2 * s)) (mocodez_3938 (b + s) (2 * s))
theorem mocodez_3940 (b s : Nat) : xall (fun _ a => xBm a) 1 b s codez_3940 := And.intro mobz_879 mobz_no
theorem mocodez_3941 (b s : Nat) : xall (fun _ a => xBm a) 1 b s codez_3941 := And.intro mobz_1903 mobz_no
theorem mocodez_3942 (b s : Nat) : xall (fun _ a => xBm a) 2 b s codez_3942 := And.intro (mocodez_3940 b (2 * s)) (mocodez_3941 (b + s) (2 * s))
theorem mocodez_3943 (b s : Nat) : xall (fun _ a => xBm a) 3 b s codez_3943 := And.intro (mocodez_3939 b (2 * s)) (mocodez_3942 (b + s) (2 * s))
theorem mocodez_3944 (b s : Nat) : xall (fun _ a => xBm a) 4 b s codez_3944 := And.intro (mocodez_3936 b (2 * s)) (mocodez_3943 (b + s) (2 * s))
theorem mocodez_3945 (b s : Nat) : xall (fun _ a => xBm a) 1 b s codez_3945 := And.intro mobz_239 mobz_2287
theorem mocodez_3946 (b s : Nat) : xall (fun _ a => xBm a) 1 b s codez_3946 := And.intro mobz_1263 mobz_no
theorem mocodez_3947 (b s : Nat) : xall (fun _ a => xBm a) 2 b s codez_3947 := And.intro (mocodez_3945 b (2 * s)) (mocodez_3946 (b + s) (2 * s))
theorem mocodez_3948 (b s : Nat) : xall (fun _ a => xBm a) 1 b s codez_3948 := And.intro mobz_751 mobz_no
theorem mocodez_3949 (b s : Nat) : xall (fun _ a => xBm a) 1 b s codez_3949 := And.intro mobz_1775 mobz_no
theorem mocodez_3950 (b s : Nat) : xall (fun _ a => xBm a) 2 b s codez_3950 := And.intro (mocodez_3948 b (2 * s)) (mocodez_3949 (b + s) (2 * s))
theorem mocodez_3951 (b s : Nat) : xall (fun _ a => xBm a) 3 b s codez_3951 := And.intro (mocodez_3947 b (2 * s)) (mocodez_3950 (b + s) (2 * s))
theorem mocodez_3952 (b s : Nat) : xall (fun _ a => xBm a) 1 b s codez_3952 := And.intro mobz_495 mobz_no
theorem mocodez_3953 (b s : Nat) : xall (fun _ a => xBm a) 1 b s codez_3953 := And.intro mobz_1519 mobz_no
theorem mocodez_3954 (b s : Nat) : xall (fun _ a => xBm a) 2 b s codez_3954 := And.intro (mocodez_3952 b (2 * s)) (mocodez_3953 (b + s) (2 * s))
theorem mocodez_3955 (b s : Nat) : xall (fun _ a => xBm a) 1 b s codez_3955 := And.intro mobz_1007 mobz_no
theorem mocodez_3956 (b s : Nat) : xall (fun _ a => xBm a) 1 b s codez_3956 := And.intro mobz_2031 mobz_no
theorem mocodez_3957 (b s : Nat) : xall (fun _ a => xBm a) 2 b s codez_3957 := And.intro (mocodez_3955 b (2 * s)) (mocodez_3956 (b + s) (2 * s))
theorem mocodez_3958 (b s : Nat) : xall (fun _ a => xBm a) 3 b s codez_3958 := And.intro (mocodez_3954 b (2 * s)) (mocodez_3957 (b + s) (2 * s))
theorem mocodez_3959 (b s : Nat) : xall (fun _ a => xBm a) 4 b s codez_3959 := And.intro (mocodez_3951 b (2 * s)) (mocodez_3958 (b + s) (2 * s))
theorem mocodez_3960 (b s : Nat) : xall (fun _ a => xBm a) 5 b s codez_3960 := And.intro (mocodez_3944 b (2 * s)) (mocodez_3959 (b + s) (2 * s))
theorem mocodez_3961 (b s : Nat) : xall (fun _ a => xBm a) 6 b s codez_3961 := And.intro (mocodez_3929 b (2 * s)) (mocodez_3960 (b + s) (2 * s))
theorem mocodez_3962 (b s : Nat) : xall (fun _ a => xBm a) 7 b s codez_3962 := And.intro (mocodez_3898 b (2 * s)) (mocodez_3961 (b + s) (2 * s))
theorem mocodez_3963 (b s : Nat) : xall (fun _ a => xBm a) 1 b s codez_3963 := And.intro mobz_31 mobz_2079
theorem mocodez_3964 (b s : Nat) : xall (fun _ a => xBm a) 1 b s codez_3964 := And.intro mobz_1055 mobz_no
theorem mocodez_3965 (b s : Nat) : xall (fun _ a => xBm a) 2 b s codez_3965 := And.intro (mocodez_3963 b (2 * s)) (mocodez_3964 (b + s) (2 * s))
theorem mocodez_3966 (b s : Nat) : xall (fun _ a => xBm a) 1 b s codez_3966 := And.intro mobz_543 mobz_no
theorem mocodez_3967 (b s : Nat) : xall (fun _ a => xBm a) 1 b s codez_3967 := And.intro mobz_1567 mobz_no
theorem mocodez_3968 (b s : Nat) : xall (fun _ a => xBm a) 2 b s codez_3968 := And.intro (mocodez_3966 b (2 * s)) (mocodez_3967 (b + s) (2 * s))
theorem mocodez_3969 (b s : Nat) : xall (fun _ a => xBm a) 3 b s codez_3969 := And.intro (mocodez_3965 b (2 * s)) (mocodez_3968 (b + s) (2 * s))
theorem mocodez_3970 (b s : Nat) : xall (fun _ a => xBm a) 1 b s codez_3970 := And.intro mobz_287 mobz_2335
theorem mocodez_3971 (b s : Nat) : xall (fun _ a => xBm a) 1 b s codez_3971 := And.intro mobz_1311 mobz_no
theorem mocodez_3972 (b s : Nat) : xall (fun _ a => xBm a) 2 b s codez_3972 := And.intro (mocodez_3970 b (2 * s)) (mocodez_3971 (b + s) (2 * s))
theorem mocodez_3973 (b s : Nat) : xall (fun _ a => xBm a) 1 b s codez_3973 := And.intro mobz_799 mobz_no
theorem mocodez_3974 (b s : Nat) : xall (fun _ a => xBm a) 1 b s codez_3974 := And.intro mobz_1823 mobz_no
theorem mocodez_3975 (b s : Nat) : xall (fun _ a => xBm a) 2 b s codez_3975 := And.intro (mocodez_3973 b (2 * s)) (mocodez_3974 (b + s) (2 * s))
theorem mocodez_3976 (b s : Nat) : xall (fun _ a => xBm a) 3 b s codez_3976 := And.intro (mocodez_3972 b (2 * s)) (mocodez_3975 (b + s) (2 * s))
theorem mocodez_3977 (b s : Nat) : xall (fun _ a => xBm a) 4 b s codez_3977 := And.intro (mocodez_3969 b (2 * s)) (mocodez_3976 (b + s) (2 * s))
theorem mocodez_3978 (b s : Nat) : xall (fun _ a => xBm a) 1 b s codez_3978 := And.intro mobz_159 mobz_2207
theorem mocodez_3979 (b s : Nat) : xall (fun _ a => xBm a) 1 b s codez_3979 := And.intro mobz_1183 mobz_no
theorem mocodez_3980 (b s : Nat) : xall (fun _ a => xBm a) 2 b s codez_3980 := And.intro (mocodez_3978 b (2 * s)) (mocodez_3979 (b + s) (2 * s))
theorem mocodez_3981 (b s : Nat) : xall (fun _ a => xBm a) 1 b s codez_3981 := And.intro mobz_671 mobz_no
theorem mocodez_3982 (b s : Nat) : xall (fun _ a => xBm a) 1 b s codez_3982 := And.intro mobz_1695 mobz_no
theorem mocodez_3983 (b s : Nat) : xall (fun _ a => xBm a) 2 b s codez_3983 := And.intro (mocodez_3981 b (2 * s)) (mocodez_3982 (b + s) (2 * s))
theorem mocodez_3984 (b s : Nat) : xall (fun _ a => xBm a) 3 b s codez_3984 := And.intro (mocodez_3980 b (2 * s)) (mocodez_3983 (b + s) (2 * s))
theorem mocodez_3985 (b s : Nat) : xall (fun _ a => xBm a) 1 b s codez_3985 := And.intro mobz_415 mobz_2463
theorem mocodez_3986 (b s : Nat) : xall (fun _ a => xBm a) 1 b s codez_3986 := And.intro mobz_1439 mobz_no
theorem mocodez_3987 (b s : Nat) : xall (fun _ a => xBm a) 2 b s codez_3987 := And.intro (mocodez_3985 b (2 * s)) (mocodez_3986 (b + s) (2 * s))
theorem mocodez_3988 (b s : Nat) : xall (fun _ a => xBm a) 1 b s codez_3988 := And.intro mobz_927 mobz_no
theorem mocodez_3989 (b s : Nat) : xall (fun _ a => xBm a) 1 b s codez_3989 := And.intro mobz_1951 mobz_no
theorem mocodez_3990 (b s : Nat) : xall (fun _ a => xBm a) 2 b s codez_3990 := And.intro (mocodez_3988 b (2 * s)) (mocodez_3989 (b + s) (2 * s))
theorem mocodez_3991 (b s : Nat) : xall (fun _ a => xBm a) 3 b s codez_3991 := And.intro (mocodez_3987 b (2 * s)) (mocodez_3990 (b + s) (2 * s))
theorem mocodez_3992 (b s : Nat) : xall (fun _ a => xBm a) 4 b s codez_3992 := And.intro (mocodez_3984 b (2 * s)) (mocodez_3991 (b + s) (2 * s))
theorem mocodez_3993 (b s : Nat) : xall (fun _ a => xBm a) 5 b s codez_3993 := And.intro (mocodez_3977 b (2 * s)) (mocodez_3992 (b + s) (2 * s))
theorem mocodez_3994 (b s : Nat) : xall (fun _ a => xBm a) 1 b s codez_3994 := And.intro mobz_95 mobz_2143
theorem mocodez_3995 (b s : Nat) : xall (fun _ a => xBm a) 1 b s codez_3995 := And.intro mobz_1119 mobz_no
theorem mocodez_3996 (b s : Nat) : xall (fun _ a => xBm a) 2 b s codez_3996 := And.intro (mocodez_3994 b (2 * s)) (mocodez_3995 (b + s) (2 * s))
theorem mocodez_3997 (b s : Nat) : xall (fun _ a => xBm a) 1 b s codez_3997 := And.intro mobz_607 mobz_no
theorem mocodez_3998 (b s : Nat) : xall (fun _ a => xBm a) 1 b s codez_3998 := And.intro mobz_1631 mobz_no
theorem mocodez_3999 (b s : Nat) : xall (fun _ a => xBm a) 2 b s codez_3999 := And.intro (mocodez_3997 b (2 * s)) (mocodez_3998 (b + s) (2 * s))
theorem mocodez_4000 (b s : Nat) : xall (fun _ a => xBm a) 3 b s codez_4000 := And.intro (mocodez_3996 b (2 * s)) (mocodez_3999 (b + s) (2 * s))
theorem mocodez_4001 (b s : Nat) : xall (fun _ a => xBm a) 1 b s codez_4001 := And.intro mobz_351 mobz_2399
theorem mocodez_4002 (b s : Nat) : xall (fun _ a => xBm a) 1 b s codez_4002 := And.intro mobz_1375 mobz_no
theorem mocodez_4003 (b s : Nat) : xall (fun _ a => xBm a) 2 b s codez_4003 := And.intro (mocodez_4001 b (2 * s)) (mocodez_4002 (b + s) (2 * s))
theorem mocodez_4004 (b s : Nat) : xall (fun _ a => xBm a) 1 b s codez_4004 := And.intro mobz_863 mobz_no
theorem mocodez_4005 (b s : Nat) : xall (fun _ a => xBm a) 1 b s codez_4005 := And.intro mobz_1887 mobz_no
theorem mocodez_4006 (b s : Nat) : xall (fun _ a => xBm a) 2 b s codez_4006 := And.intro (mocodez_4004 b (2 * s)) (mocodez_4005 (b + s) (2 * s))
theorem mocodez_4007 (b s : Nat) : xall (fun _ a => xBm a) 3 b s codez_4007 := And.intro (mocodez_4003 b (2 * s)) (mocodez_4006 (b + s) (2 * s))
theorem mocodez_4008 (b s : Nat) : xall (fun _ a => xBm a) 4 b s codez_4008 := And.intro (mocodez_4000 b (2 * s)) (mocodez_4007 (b + s) (2 * s))
theorem mocodez_4009 (b s : Nat) : xall (fun _ a => xBm a) 1 b s codez_4009 := And.intro mobz_223 mobz_2271
theorem mocodez_4010 (b s : Nat) : xall (fun _ a => xBm a) 1 b s codez_4010 := And.intro mobz_1247 mobz_no
theorem mocodez_4011 (b s : Nat) : xall (fun _ a => xBm a) 2 b s codez_4011 := And.intro (mocodez_4009 b (2 * s)) (mocodez_4010 (b + s) (2 * s))
theorem mocodez_4012 (b s : Nat) : xall (fun _ a => xBm a) 1 b s codez_4012 := And.intro mobz_735 mobz_no
theorem mocodez_4013 (b s : Nat) : xall (fun _ a => xBm a) 1 b s codez_4013 := And.intro mobz_1759 mobz_no
theorem mocodez_4014 (b s : Nat) : xall (fun _ a => xBm a) 2 b s codez_4014 := And.intro (mocodez_4012 b (2 * s)) (mocodez_4013 (b + s) (2 * s))
theorem mocodez_4015 (b s : Nat) : xall (fun _ a => xBm a) 3 b s codez_4015 := And.intro (mocodez_4011 b (2 * s)) (mocodez_4014 (b + s) (2 * s))
theorem mocodez_4016 (b s : Nat) : xall (fun _ a => xBm a) 1 b s codez_4016 := And.intro mobz_479 mobz_2527
theorem mocodez_4017 (b s : Nat) : xall (fun _ a => xBm a) 1 b s codez_4017 := And.intro mobz_1503 mobz_no
theorem mocodez_4018 (b s : Nat) : xall (fun _ a => xBm a) 2 b s codez_4018 := And.intro (mocodez_4016 b (2 * s)) (mocodez_4017 (b + s) (2 * s))
theorem mocodez_4019 (b s : Nat) : xall (fun _ a => xBm a) 1 b s codez_4019 := And.intro mobz_991 mobz_no
theorem mocodez_4020 (b s : Nat) : xall (fun _ a => xBm a) 1 b s codez_4020 := And.intro mobz_2015 mobz_no
theorem mocodez_4021 (b s : Nat) : xall (fun _ a => xBm a) 2 b s codez_4021 := And.intro (mocodez_4019 b (2 * s)) (mocodez_4020 (b + s) (2 * s))
theorem mocodez_4022 (b s : Nat) : xall (fun _ a => xBm a) 3 b s codez_4022 := And.intro (mocodez_4018 b (2 * s)) (mocodez_4021 (b + s) (2 * s))
theorem mocodez_4023 (b s : Nat) : xall (fun _ a => xBm a) 4 b s codez_4023 := And.intro (mocodez_4015 b (2 * s)) (mocodez_4022 (b + s) (2 * s))
theorem mocodez_4024 (b s : Nat) : xall (fun _ a => xBm a) 5 b s codez_4024 := And.intro (mocodez_4008 b (2 * s)) (mocodez_4023 (b + s) (2 * s))
theorem mocodez_4025 (b s : Nat) : xall (fun _ a => xBm a) 6 b s codez_4025 := And.intro (mocodez_3993 b (2 * s)) (mocodez_4024 (b + s) (2 * s))
theorem mocodez_4026 (b s : Nat) : xall (fun _ a => xBm a) 1 b s codez_4026 := And.intro mobz_63 mobz_2111
theorem mocodez_4027 (b s : Nat) : xall (fun _ a => xBm a) 1 b s codez_4027 := And.intro mobz_1087 mobz_no
theorem mocodez_4028 (b s : Nat) : xall (fun _ a => xBm a) 2 b s codez_4028 := And.intro (mocodez_4026 b (2 * s)) (mocodez_4027 (b + s) (2 * s))
theorem mocodez_4029 (b s : Nat) : xall (fun _ a => xBm a) 1 b s codez_4029 := And.intro mobz_575 mobz_no
theorem mocodez_4030 (b s : Nat) : xall (fun _ a => xBm a) 1 b s codez_4030 := And.intro mobz_1599 mobz_no
theorem mocodez_4031 (b s : Nat) : xall (fun _ a => xBm a) 2 b s codez_4031 := And.intro (mocodez_4029 b (2 * s)) (mocodez_4030 (b + s) (2 * s))
theorem mocodez_4032 (b s : Nat) : xall (fun _ a => xBm a) 3 b s codez_4032 := And.intro (mocodez_4028 b (2 * s)) (mocodez_4031 (b + s) (2 * s))
theorem mocodez_4033 (b s : Nat) : xall (fun _ a => xBm a) 1 b s codez_4033 := And.intro mobz_319 mobz_2367
theorem mocodez_4034 (b s : Nat) : xall (fun _ a => xBm a) 1 b s codez_4034 := And.intro mobz_1343 mobz_no
theorem mocodez_4035 (b s : Nat) : xall (fun _ a => xBm a) 2 b s codez_4035 := And.intro (mocodez_4033 b (2 * s)) (mocodez_4034 (b + s) (2 * s))
theorem mocodez_4036 (b s : Nat) : xall (fun _ a => xBm a) 1 b s codez_4036 := And.intro mobz_831 mobz_no
theorem mocodez_4037 (b s : Nat) : xall (fun _ a => xBm a) 1 b s codez_4037 := And.intro mobz_1855 mobz_no
theorem mocodez_4038 (b s : Nat) : xall (fun _ a => xBm a) 2 b s codez_4038 := And.intro (mocodez_4036 b (2 * s)) (mocodez_4037 (b + s) (2 * s))
theorem mocodez_4039 (b s : Nat) : xall (fun _ a => xBm a) 3 b s codez_4039 := And.intro (mocodez_4035 b (2 * s)) (mocodez_4038 (b + s) (2 * s))
theorem mocodez_4040 (b s : Nat) : xall (fun _ a => xBm a) 4 b s codez_4040 := And.intro (mocodez_4032 b (2 * s)) (mocodez_4039 (b + s) (2 * s))
theorem mocodez_4041 (b s : Nat) : xall (fun _ a => xBm a) 1 b s codez_4041 := And.intro mobz_191 mobz_2239
theorem mocodez_4042 (b s : Nat) : xall (fun _ a => xBm a) 1 b s codez_4042 := And.intro mobz_1215 mobz_no
theorem mocodez_4043 (b s : Nat) : xall (fun _ a => xBm a) 2 b s codez_4043 := And.intro (mocodez_4041 b (2 * s)) (mocodez_4042 (b + s) (2 * s))
theorem mocodez_4044 (b s : Nat) : xall (fun _ a => xBm a) 1 b s codez_4044 := And.intro mobz_703 mobz_no
theorem mocodez_4045 (b s : Nat) : xall (fun _ a => xBm a) 1 b s codez_4045 := And.intro mobz_1727 mobz_no
theorem mocodez_4046 (b s : Nat) : xall (fun _ a => xBm a) 2 b s codez_4046 := And.intro (mocodez_4044 b (2 * s)) (mocodez_4045 (b + s) (2 * s))
theorem mocodez_4047 (b s : Nat) : xall (fun _ a => xBm a) 3 b s codez_4047 := And.intro (mocodez_4043 b (2 * s)) (mocodez_4046 (b + s) (2 * s))
theorem mocodez_4048 (b s : Nat) : xall (fun _ a => xBm a) 1 b s codez_4048 := And.intro mobz_447 mobz_2495
theorem mocodez_4049 (b s : Nat) : xall (fun _ a => xBm a) 1 b s codez_4049 := And.intro mobz_1471 mobz_no
theorem mocodez_4050 (b s : Nat) : xall (fun _ a => xBm a) 2 b s codez_4050 := And.intro (mocodez_4048 b (2 * s)) (mocodez_4049 (b + s) (2 * s))
theorem mocodez_4051 (b s : Nat) : xall (fun _ a => xBm a) 1 b s codez_4051 := And.intro mobz_959 mobz_no
theorem mocodez_4052 (b s : Nat) : xall (fun _ a => xBm a) 1 b s codez_4052 := And.intro mobz_1983 mobz_no
theorem mocodez_4053 (b s : Nat) : xall (fun _ a => xBm a) 2 b s codez_4053 := And.intro (mocodez_4051 b (2 * s)) (mocodez_4052 (b + s) (2 * s))
theorem mocodez_4054 (b s : Nat) : xall (fun _ a => xBm a) 3 b s codez_4054 := And.intro (mocodez_4050 b (2 * s)) (mocodez_4053 (b + s) (2 * s))
theorem mocodez_4055 (b s : Nat) : xall (fun _ a => xBm a) 4 b s codez_4055 := And.intro (mocodez_4047 b (2 * s)) (mocodez_4054 (b + s) (2 * s))
theorem mocodez_4056 (b s : Nat) : xall (fun _ a => xBm a) 5 b s codez_4056 := And.intro (mocodez_4040 b (2 * s)) (mocodez_4055 (b + s) (2 * s))
theorem mocodez_4057 (b s : Nat) : xall (fun _ a => xBm a) 1 b s codez_4057 := And.intro mobz_127 mobz_2175
theorem mocodez_4058 (b s : Nat) : xall (fun _ a => xBm a) 1 b s codez_4058 := And.intro mobz_1151 mobz_no
theorem mocodez_4059 (b s : Nat) : xall (fun _ a => xBm a) 2 b s codez_4059 := And.intro (mocodez_4057 b (2 * s)) (mocodez_4058 (b + s) (2 * s))
theorem mocodez_4060 (b s : Nat) : xall (fun _ a => xBm a) 1 b s codez_4060 := And.intro mobz_639 mobz_no
theorem mocodez_4061 (b s : Nat) : xall (fun _ a => xBm a) 1 b s codez_4061 := And.intro mobz_1663 mobz_no
theorem mocodez_4062 (b s : Nat) : xall (fun _ a => xBm a) 2 b s codez_4062 := And.intro (mocodez_4060 b (2 * s)) (mocodez_4061 (b + s) (2 * s))
theorem mocodez_4063 (b s : Nat) : xall (fun _ a => xBm a) 3 b s codez_4063 := And.intro (mocodez_4059 b (2 * s)) (mocodez_4062 (b + s) (2 * s))
theorem mocodez_4064 (b s : Nat) : xall (fun _ a => xBm a) 1 b s codez_4064 := And.intro mobz_383 mobz_2431
theorem mocodez_4065 (b s : Nat) : xall (fun _ a => xBm a) 1 b s codez_4065 := And.intro mobz_1407 mobz_no
theorem mocodez_4066 (b s : Nat) : xall (fun _ a => xBm a) 2 b s codez_4066 := And.intro (mocodez_4064 b (2 * s)) (mocodez_4065 (b + s) (2 * s))
theorem mocodez_4067 (b s : Nat) : xall (fun _ a => xBm a) 1 b s codez_4067 := And.intro mobz_895 mobz_no
theorem mocodez_4068 (b s : Nat) : xall (fun _ a => xBm a) 1 b s codez_4068 := And.intro mobz_1919 mobz_no
theorem mocodez_4069 (b s : Nat) : xall (fun _ a => xBm a) 2 b s codez_4069 := And.intro (mocodez_4067 b (2 * s)) (mocodez_4068 (b + s) (2 * s))
theorem mocodez_4070 (b s : Nat) : xall (fun _ a => xBm a) 3 b s codez_4070 := And.intro (mocodez_4066 b (2 * s)) (mocodez_4069 (b + s) (2 * s))
theorem mocodez_4071 (b s : Nat) : xall (fun _ a => xBm a) 4 b s codez_4071 := And.intro (mocodez_4063 b (2 * s)) (mocodez_4070 (b + s) (2 * s))
theorem mocodez_4072 (b s : Nat) : xall (fun _ a => xBm a) 1 b s codez_4072 := And.intro mobz_255 mobz_2303
theorem mocodez_4073 (b s : Nat) : xall (fun _ a => xBm a) 1 b s codez_4073 := And.intro mobz_1279 mobz_no
theorem mocodez_4074 (b s : Nat) : xall (fun _ a => xBm a) 2 b s codez_4074 := And.intro (mocodez_4072 b (2 * s)) (mocodez_4073 (b + s) (2 * s))
theorem mocodez_4075 (b s : Nat) : xall (fun _ a => xBm a) 1 b s codez_4075 := And.intro mobz_767 mobz_no
theorem mocodez_4076 (b s : Nat) : xall (fun _ a => xBm a) 1 b s codez_4076 := And.intro mobz_1791 mobz_no
theorem mocodez_4077 (b s : Nat) : xall (fun _ a => xBm a) 2 b s codez_4077 := And.intro (mocodez_4075 b (2 * s)) (mocodez_4076 (b + s) (2 * s))
theorem mocodez_4078 (b s : Nat) : xall (fun _ a => xBm a) 3 b s codez_4078 := And.intro (mocodez_4074 b (2 * s)) (mocodez_4077 (b + s) (2 * s))
theorem mocodez_4079 (b s : Nat) : xall (fun _ a => xBm a) 1 b s codez_4079 := And.intro mobz_511 mobz_no
theorem mocodez_4080 (b s : Nat) : xall (fun _ a => xBm a) 1 b s codez_4080 := And.intro mobz_1535 mobz_no
theorem mocodez_4081 (b s : Nat) : xall (fun _ a => xBm a) 2 b s codez_4081 := And.intro (mocodez_4079 b (2 * s)) (mocodez_4080 (b + s) (2 * s))
theorem mocodez_4082 (b s : Nat) : xall (fun _ a => xBm a) 1 b s codez_4082 := And.intro mobz_1023 mobz_no
theorem mocodez_4083 (b s : Nat) : xall (fun _ a => xBm a) 1 b s codez_4083 := And.intro mobz_2047 mobz_no
theorem mocodez_4084 (b s : Nat) : xall (fun _ a => xBm a) 2 b s codez_4084 := And.intro (mocodez_4082 b (2 * s)) (mocodez_4083 (b + s) (2 * s))
theorem mocodez_4085 (b s : Nat) : xall (fun _ a => xBm a) 3 b s codez_4085 := And.intro (mocodez_4081 b (2 * s)) (mocodez_4084 (b + s) (2 * s))
theorem mocodez_4086 (b s : Nat) : xall (fun _ a => xBm a) 4 b s codez_4086 := And.intro (mocodez_4078 b (2 * s)) (mocodez_4085 (b + s) (2 * s))
theorem mocodez_4087 (b s : Nat) : xall (fun _ a => xBm a) 5 b s codez_4087 := And.intro (mocodez_4071 b (2 * s)) (mocodez_4086 (b + s) (2 * s))
theorem mocodez_4088 (b s : Nat) : xall (fun _ a => xBm a) 6 b s codez_4088 := And.intro (mocodez_4056 b (2 * s)) (mocodez_4087 (b + s) (2 * s))
theorem mocodez_4089 (b s : Nat) : xall (fun _ a => xBm a) 7 b s codez_4089 := And.intro (mocodez_4025 b (2 * s)) (mocodez_4088 (b + s) (2 * s))
theorem mocodez_4090 (b s : Nat) : xall (fun _ a => xBm a) 8 b s codez_4090 := And.intro (mocodez_3962 b (2 * s)) (mocodez_4089 (b + s) (2 * s))
theorem mocodez_4091 (b s : Nat) : xall (fun _ a => xBm a) 9 b s codez_4091 := And.intro (mocodez_3835 b (2 * s)) (mocodez_4090 (b + s) (2 * s))
theorem mocodez_4092 (b s : Nat) : xall (fun _ a => xBm a) 10 b s codez_4092 := And.intro (mocodez_3580 b (2 * s)) (mocodez_4091 (b + s) (2 * s))
theorem mocodez_4093 (b s : Nat) : xall (fun _ a => xBm a) 11 b s codez_4093 := And.intro (mocodez_3069 b (2 * s)) (mocodez_4092 (b + s) (2 * s))
theorem mocodez (b s : Nat) : xall (fun _ a => xBm a) 12 b s codez := And.intro (mocodez_2046 b (2 * s)) (mocodez_4093 (b + s) (2 * s))
theorem moallz : xCm codez := fun b => xall_one 12 0 1 codez (mocodez 0 1) b
