/-! What a base gives, all blocks keep: by a program (wip/p1/genmono.py). -/
theorem mobx_0 : xBm bx_0 := fun dl fs i1 i2 fin hi => (m_aload (m_obj (m_aload (m_iconst (m_newa (m_putr (m_aload (m_new (m_dup (m_calli hi))))))))))
theorem mobx_1 : xBm bx_1 := fun dl fs i1 i2 fin hi => (m_putr (m_aload (m_new (m_dup (m_calli hi)))))
theorem mobx_2 : xBm bx_2 := fun dl fs i1 i2 fin hi => (m_putr (m_aload (m_new (m_dup (m_calli hi)))))
theorem mobx_3 : xBm bx_3 := fun dl fs i1 i2 fin hi => (m_putr (m_aload (m_new (m_dup (m_aload (m_getr (m_aload (m_getr (m_calli hi)))))))))
theorem mobx_4 : xBm bx_4 := fun dl fs i1 i2 fin hi => (m_putr (m_aload (m_new (m_dup (m_aload (m_getr (m_aload (m_getr (m_calli hi)))))))))
theorem mobx_5 : xBm bx_5 := fun dl fs i1 i2 fin hi => (m_putr (m_aload (m_new (m_dup (m_aload (m_getr (m_aload (m_getr (m_calli hi)))))))))
theorem mobx_6 : xBm bx_6 := fun dl fs i1 i2 fin hi => (m_putr (m_aload (m_new (m_dup (m_aload (m_getr (m_aload (m_getr (m_calli hi)))))))))
theorem mobx_7 : xBm bx_7 := fun dl fs i1 i2 fin hi => (m_putr (m_aload (m_new (m_dup (m_aload (m_getr (m_aload (m_getr (m_calli hi)))))))))
theorem mobx_8 : xBm bx_8 := fun dl fs i1 i2 fin hi => (m_putr (m_aload (m_new (m_dup (m_aload (m_getr (m_aload (m_getr (m_aload (m_getr (m_calli hi)))))))))))
theorem mobx_9 : xBm bx_9 := fun dl fs i1 i2 fin hi => (m_putr (m_aload (m_text (m_callv hi))))
theorem mobx_10 : xBm bx_10 := fun dl fs i1 i2 fin hi => (m_aload (m_getr (m_aload (m_getr (m_aload (m_geti (m_callv hi)))))))
theorem mobx_11 : xBm bx_11 := fun dl fs i1 i2 fin hi => (m_aload (m_text (m_callv hi)))
theorem mobx_12 : xBm bx_12 := fun dl fs i1 i2 fin hi => (m_aload (m_callv hi))
theorem mobx_13 : xBm bx_13 := fun dl fs i1 i2 fin hi => (m_pop (m_aload (m_getr (m_callv hi))))
theorem mobx_14 : xBm bx_14 := fun dl fs i1 i2 fin hi => (m_ret hi)
theorem mobx_15 : xBm bx_15 := fun dl fs i1 i2 fin hi => (m_aload (m_getr (m_aload (m_getr (m_iload (m_callv hi))))))
theorem mobx_16 : xBm bx_16 := fun dl fs i1 i2 fin hi => (m_aload (m_iconst (m_aload (m_getr (m_geti (m_callv hi))))))
theorem mobx_17 : xBm bx_17 := fun dl fs i1 i2 fin hi => (m_iret hi)
theorem mobx_18 : xBm bx_18 := fun dl fs i1 i2 fin hi => (m_aload (m_getr (m_geti (m_if1 m_no (m_aload (m_getr (m_geti (m_if1 m_no (m_aload (m_getr (m_geti (m_if1 m_no (m_aload (m_getr (m_geti (m_if1 (m_xgo hi) m_no))))))))))))))))
theorem mobx_19 : xBm bx_19 := fun dl fs i1 i2 fin hi => (m_iconst (m_zret hi))
theorem mobx_20 : xBm bx_20 := fun dl fs i1 i2 fin hi => (m_aload (m_getr (m_geti (m_istore (m_aload (m_geti (m_istore (m_aload (m_iconst (m_puti (m_aload (m_getr (m_callv hi)))))))))))))
theorem mobx_21 : xBm bx_21 := fun dl fs i1 i2 fin hi => (m_aload (m_iload (m_callv hi)))
theorem mobx_22 : xBm bx_22 := fun dl fs i1 i2 fin hi => (m_istore (m_iconst (m_istore (m_iload (m_if1 (m_xgo hi) (m_aload (m_getr (m_callv hi))))))))
theorem mobx_23 : xBm bx_23 := fun dl fs i1 i2 fin hi => (m_istore (m_xgo hi))
theorem mobx_24 : xBm bx_24 := fun dl fs i1 i2 fin hi => (m_iload (m_if1 (m_xgo hi) (m_aload (m_getr (m_iload (m_callv hi))))))
theorem mobx_25 : xBm bx_25 := fun dl fs i1 i2 fin hi => (m_aload (m_aload (m_getr (m_callv hi))))
theorem mobx_26 : xBm bx_26 := fun dl fs i1 i2 fin hi => (m_aload (m_getr (m_callv hi)))
theorem mobx_27 : xBm bx_27 := fun dl fs i1 i2 fin hi => (m_callv hi)
theorem mobx_28 : xBm bx_28 := fun dl fs i1 i2 fin hi => (m_istore (m_iload (m_if1 (m_xgo hi) (m_aload (m_getr (m_iload (m_callv hi)))))))
theorem mobx_29 : xBm bx_29 := fun dl fs i1 i2 fin hi => (m_aload (m_iconst (m_aload (m_getr (m_geti (m_callv hi))))))
theorem mobx_30 : xBm bx_30 := fun dl fs i1 i2 fin hi => (m_istore (m_iload (m_if1 (m_xgo hi) (m_aload (m_getr (m_aload (m_getr (m_geti (m_callv hi)))))))))
theorem mobx_31 : xBm bx_31 := fun dl fs i1 i2 fin hi => (m_aload (m_iconst (m_aload (m_callv hi))))
theorem mobx_32 : xBm bx_32 := fun dl fs i1 i2 fin hi => (m_if1 (m_xgo hi) m_no)
theorem mobx_33 : xBm bx_33 := fun dl fs i1 i2 fin hi => (m_iconst (m_callv hi))
theorem mobx_34 : xBm bx_34 := fun dl fs i1 i2 fin hi => (m_istore (m_iload (m_if1 m_no (m_aload (m_getr (m_callv hi))))))
theorem mobx_35 : xBm bx_35 := fun dl fs i1 i2 fin hi => (m_iconst (m_iret hi))
theorem mobx_36 : xBm bx_36 := fun dl fs i1 i2 fin hi => (m_iload (m_if1 (m_xgo hi) m_no))
theorem mobx_37 : xBm bx_37 := fun dl fs i1 i2 fin hi => (m_iload (m_iret hi))
theorem mobx_38 : xBm bx_38 := fun dl fs i1 i2 fin hi => (m_aload (m_aload (m_callt hi)))
theorem mobx_39 : xBm bx_39 := fun dl fs i1 i2 fin hi => (m_iconst (m_mmin (m_puti (m_iconst (m_istore (m_iload (m_aload (m_geti (m_if2 (m_xgo hi) (m_aload (m_getr (m_iload (m_aload (m_iload (m_callt hi)))))))))))))))
theorem mobx_40 : xBm bx_40 := fun dl fs i1 i2 fin hi => (m_iload (m_aload (m_geti (m_if2 (m_xgo hi) (m_aload (m_getr (m_iload (m_aload (m_iload (m_callt hi))))))))))
theorem mobx_41 : xBm bx_41 := fun dl fs i1 i2 fin hi => (m_un (m_ast (m_iinc (m_xgo hi))))
theorem mobx_42 : xBm bx_42 := fun dl fs i1 i2 fin hi => (m_ret hi)
theorem mobx_43 : xBm bx_43 := fun dl fs i1 i2 fin hi => (m_aload (m_obj (m_aload (m_iconst (m_newa (m_putr (m_aload (m_iconst (m_newa (m_putr (m_aload (m_iconst (m_newa (m_putr (m_aload (m_iconst (m_newa (m_putr (m_aload (m_iconst (m_newa (m_putr (m_xgo hi)))))))))))))))))))))))
theorem mobx_44 : xBm bx_44 := fun dl fs i1 i2 fin hi => (m_aload (m_geti (m_istore (m_iload (m_istore (m_iload (m_if1 (m_xgo hi) m_no)))))))
theorem mobx_45 : xBm bx_45 := fun dl fs i1 i2 fin hi => (m_ret hi)
theorem mobx_46 : xBm bx_46 := fun dl fs i1 i2 fin hi => (m_aload (m_getr (m_iconst (m_aload (m_getr (m_getr (m_iload (m_ald (m_bin (m_ald (m_iconst (m_bin (m_istore (m_iload (m_if1 (m_xgo hi) m_no)))))))))))))))
theorem mobx_47 : xBm bx_47 := fun dl fs i1 i2 fin hi => (m_aload (m_getr (m_getr (m_iload (m_iconst (m_ast (m_aload (m_getr (m_getr (m_iload (m_iload (m_ast (m_ret hi)))))))))))))
theorem mobx_48 : xBm bx_48 := fun dl fs i1 i2 fin hi => (m_aload (m_getr (m_iconst (m_aload (m_getr (m_getr (m_iload (m_ald (m_bin (m_ald (m_iconst (m_bin (m_istore (m_iload (m_if1 (m_xgo hi) m_no)))))))))))))))
theorem mobx_49 : xBm bx_49 := fun dl fs i1 i2 fin hi => (m_aload (m_getr (m_getr (m_iload (m_ald (m_aload (m_getr (m_getr (m_iload (m_ald (m_if2 (m_xgo hi) m_no)))))))))))
theorem mobx_50 : xBm bx_50 := fun dl fs i1 i2 fin hi => (m_aload (m_getr (m_getr (m_iload (m_iconst (m_ast (m_aload (m_getr (m_getr (m_iload (m_iload (m_ast (m_ret hi)))))))))))))
theorem mobx_51 : xBm bx_51 := fun dl fs i1 i2 fin hi => (m_iconst (m_istore (m_aload (m_getr (m_getr (m_iload (m_ald (m_istore (m_iload (m_if1 (m_xgo hi) m_no))))))))))
theorem mobx_52 : xBm bx_52 := fun dl fs i1 i2 fin hi => (m_iload (m_iconst (m_if2 (m_xgo hi) m_no)))
theorem mobx_53 : xBm bx_53 := fun dl fs i1 i2 fin hi => (m_aload (m_getr (m_getr (m_iload (m_ald (m_istore (m_iload (m_if1 (m_xgo hi) (m_aload (m_getr (m_getr (m_iload (m_ald (m_iconst (m_if2 m_no (m_aload (m_getr (m_aload (m_getr (m_getr (m_iload (m_ald (m_xgo hi)))))))))))))))))))))))
theorem mobx_54 : xBm bx_54 := fun dl fs i1 i2 fin hi => (m_iload (m_if1 (m_xgo hi) (m_aload (m_getr (m_getr (m_iload (m_ald (m_iconst (m_if2 m_no (m_aload (m_getr (m_aload (m_getr (m_getr (m_iload (m_ald (m_callv hi)))))))))))))))))
theorem mobx_55 : xBm bx_55 := fun dl fs i1 i2 fin hi => (m_iconst (m_if2 (m_xgo hi) m_no))
theorem mobx_56 : xBm bx_56 := fun dl fs i1 i2 fin hi => (m_aload (m_iload (m_iconst (m_bin (m_aload (m_getr (m_getr (m_iload (m_ald (m_iconst (m_callv hi)))))))))))
theorem mobx_57 : xBm bx_57 := fun dl fs i1 i2 fin hi => (m_aload (m_getr (m_getr (m_iload (m_ald (m_istore (m_xgo hi)))))))
theorem mobx_58 : xBm bx_58 := fun dl fs i1 i2 fin hi => (m_aload (m_iconst (m_callv hi)))
theorem mobx_59 : xBm bx_59 := fun dl fs i1 i2 fin hi => (m_ret hi)
theorem mobx_60 : xBm bx_60 := fun dl fs i1 i2 fin hi => (m_aload (m_geti (m_istore (m_aload (m_getr (m_getr (m_iload (m_ald (m_table (And.intro (m_xgo hi) (And.intro (m_xgo hi) (And.intro (m_xgo hi) (And.intro (m_xgo hi) (And.intro (m_xgo hi) (And.intro (m_xgo hi) (And.intro (m_xgo hi) (And.intro m_no (And.intro (m_xgo hi) (And.intro (m_xgo hi) (And.intro m_no (And.intro m_no (And.intro m_no (And.intro m_no (And.intro m_no (And.intro m_no (And.intro m_no True.intro))))))))))))))))) (m_xgo hi))))))))))
theorem mobx_61 : xBm bx_61 := fun dl fs i1 i2 fin hi => (m_aload (m_iload (m_callv hi)))
theorem mobx_62 : xBm bx_62 := fun dl fs i1 i2 fin hi => (m_xgo hi)
theorem mobx_63 : xBm bx_63 := fun dl fs i1 i2 fin hi => (m_aload (m_iload (m_callv hi)))
theorem mobx_64 : xBm bx_64 := fun dl fs i1 i2 fin hi => (m_xgo hi)
theorem mobx_65 : xBm bx_65 := fun dl fs i1 i2 fin hi => (m_aload (m_aload (m_getr (m_getr (m_iload (m_ald (m_callv hi)))))))
theorem mobx_66 : xBm bx_66 := fun dl fs i1 i2 fin hi => (m_aload (m_aload (m_getr (m_getr (m_iload (m_ald (m_callv hi)))))))
theorem mobx_67 : xBm bx_67 := fun dl fs i1 i2 fin hi => (m_xgo hi)
theorem mobx_68 : xBm bx_68 := fun dl fs i1 i2 fin hi => (m_aload (m_aload (m_getr (m_getr (m_iload (m_ald (m_callv hi)))))))
theorem mobx_69 : xBm bx_69 := fun dl fs i1 i2 fin hi => (m_aload (m_iload (m_callv hi)))
theorem mobx_70 : xBm bx_70 := fun dl fs i1 i2 fin hi => (m_xgo hi)
theorem mobx_71 : xBm bx_71 := fun dl fs i1 i2 fin hi => (m_aload (m_iload (m_callv hi)))
theorem mobx_72 : xBm bx_72 := fun dl fs i1 i2 fin hi => (m_xgo hi)
theorem mobx_73 : xBm bx_73 := fun dl fs i1 i2 fin hi => (m_ret hi)
theorem mobx_74 : xBm bx_74 := fun dl fs i1 i2 fin hi => (m_iload (m_istore (m_iload (m_if1 (m_xgo hi) (m_aload (m_iload (m_callv hi)))))))
theorem mobx_75 : xBm bx_75 := fun dl fs i1 i2 fin hi => (m_iload (m_if1 (m_xgo hi) (m_aload (m_iload (m_callv hi)))))
theorem mobx_76 : xBm bx_76 := fun dl fs i1 i2 fin hi => (m_aload (m_getr (m_getr (m_iload (m_ald (m_istore (m_xgo hi)))))))
theorem mobx_77 : xBm bx_77 := fun dl fs i1 i2 fin hi => (m_ret hi)
theorem mobx_78 : xBm bx_78 := fun dl fs i1 i2 fin hi => (m_aload (m_getr (m_iconst (m_aload (m_getr (m_getr (m_iload (m_ald (m_bin (m_ald (m_iconst (m_bin (m_istore (m_iload (m_if1 (m_xgo hi) m_no)))))))))))))))
theorem mobx_79 : xBm bx_79 := fun dl fs i1 i2 fin hi => (m_aload (m_getr (m_getr (m_iload (m_iconst (m_ast (m_aload (m_getr (m_getr (m_iload (m_iload (m_ast (m_ret hi)))))))))))))
theorem mobx_80 : xBm bx_80 := fun dl fs i1 i2 fin hi => (m_aload (m_getr (m_getr (m_iload (m_ald (m_istore (m_aload (m_getr (m_getr (m_iload (m_ald (m_istore (m_aload (m_getr (m_aload (m_getr (m_getr (m_iload (m_ald (m_callv hi))))))))))))))))))))
theorem mobx_81 : xBm bx_81 := fun dl fs i1 i2 fin hi => (m_istore (m_iload (m_iconst (m_if2 (m_xgo hi) m_no))))
theorem mobx_82 : xBm bx_82 := fun dl fs i1 i2 fin hi => (m_aload (m_getr (m_getr (m_iload (m_ald (m_iconst (m_if2 (m_xgo hi) m_no)))))))
theorem mobx_83 : xBm bx_83 := fun dl fs i1 i2 fin hi => (m_aload (m_geti (m_iload (m_if2 (m_xgo hi) (m_iconst (m_xgo hi))))))
theorem mobx_84 : xBm bx_84 := fun dl fs i1 i2 fin hi => (m_iconst (m_istore (m_aload (m_iload (m_puti (m_aload (m_iload (m_callv hi))))))))
theorem mobx_85 : xBm bx_85 := fun dl fs i1 i2 fin hi => (m_istore (m_aload (m_iload (m_puti (m_aload (m_iload (m_callv hi)))))))
theorem mobx_86 : xBm bx_86 := fun dl fs i1 i2 fin hi => (m_if1 (m_xgo hi) m_no)
theorem mobx_87 : xBm bx_87 := fun dl fs i1 i2 fin hi => (m_aload (m_getr (m_iconst (m_iload (m_bin (m_ald (m_iconst (m_bin (m_istore (m_aload (m_getr (m_getr (m_iload (m_ald (m_if1 (m_xgo hi) (m_aload (m_getr (m_getr (m_iload (m_iload (m_ast (m_aload (m_xgo hi)))))))))))))))))))))))
theorem mobx_88 : xBm bx_88 := fun dl fs i1 i2 fin hi => (m_iload (m_if1 (m_xgo hi) m_no))
theorem mobx_89 : xBm bx_89 := fun dl fs i1 i2 fin hi => (m_aload (m_getr (m_getr (m_iload (m_dup2 (m_ald (m_iconst (m_bin (m_ast (m_iload (m_aload (m_getr (m_getr (m_iload (m_ald (m_if2 m_no (m_iload (m_aload (m_getr (m_getr (m_iload (m_ald (m_xgo hi)))))))))))))))))))))))
theorem mobx_90 : xBm bx_90 := fun dl fs i1 i2 fin hi => (m_aload (m_getr (m_getr (m_iload (m_iload (m_ast (m_ret hi)))))))
theorem mobx_91 : xBm bx_91 := fun dl fs i1 i2 fin hi => (m_aload (m_getr (m_getr (m_iload (m_ald (m_istore (m_iload (m_if1 (m_xgo hi) (m_aload (m_getr (m_getr (m_iload (m_ald (m_istore (m_aload (m_getr (m_iconst (m_iload (m_bin (m_ald (m_if1 m_no (m_aload (m_xgo hi)))))))))))))))))))))))
theorem mobx_92 : xBm bx_92 := fun dl fs i1 i2 fin hi => (m_iload (m_if1 (m_xgo hi) (m_aload (m_getr (m_getr (m_iload (m_ald (m_istore (m_aload (m_getr (m_iconst (m_iload (m_bin (m_ald (m_if1 m_no (m_aload (m_iload (m_callv hi))))))))))))))))))
theorem mobx_93 : xBm bx_93 := fun dl fs i1 i2 fin hi => (m_if1 (m_xgo hi) m_no)
theorem mobx_94 : xBm bx_94 := fun dl fs i1 i2 fin hi => (m_aload (m_getr (m_iconst (m_iload (m_bin (m_ald (m_if1 (m_xgo hi) (m_aload (m_getr (m_iconst (m_iload (m_bin (m_aload (m_getr (m_getr (m_iload (m_ald (m_aload (m_getr (m_getr (m_iload (m_ald (m_xgo hi)))))))))))))))))))))))
theorem mobx_95 : xBm bx_95 := fun dl fs i1 i2 fin hi => (m_ast (m_aload (m_getr (m_getr (m_iload (m_ald (m_istore (m_xgo hi))))))))
theorem mobx_96 : xBm bx_96 := fun dl fs i1 i2 fin hi => (m_ret hi)
theorem mobx_97 : xBm bx_97 := fun dl fs i1 i2 fin hi => (m_aload (m_geti (m_istore (m_iconst (m_istore (m_aload (m_aload (m_geti (m_iconst (m_bin (m_aload (m_getr (m_alen (m_iconst (m_bin (m_mmin (m_puti (m_aload (m_getr (m_aload (m_geti (m_iconst (m_xgo hi)))))))))))))))))))))))
theorem mobx_98 : xBm bx_98 := fun dl fs i1 i2 fin hi => (m_iload (m_if1 (m_xgo hi) (m_iinc (m_aload (m_getr (m_getr (m_iload (m_ald (m_iconst (m_if2 (m_xgo hi) (m_aload (m_iload (m_iload (m_callv hi))))))))))))))
theorem mobx_99 : xBm bx_99 := fun dl fs i1 i2 fin hi => (m_aload (m_getr (m_getr (m_iload (m_ald (m_istore (m_xgo hi)))))))
theorem mobx_100 : xBm bx_100 := fun dl fs i1 i2 fin hi => (m_iload (m_iconst (m_if2 (m_xgo hi) m_no)))
theorem mobx_101 : xBm bx_101 := fun dl fs i1 i2 fin hi => (m_aload (m_aload (m_getr (m_getr (m_iload (m_ald (m_callv hi)))))))
theorem mobx_102 : xBm bx_102 := fun dl fs i1 i2 fin hi => (m_aload (m_iload (m_callv hi)))
theorem mobx_103 : xBm bx_103 := fun dl fs i1 i2 fin hi => (m_aload (m_getr (m_getr (m_iload (m_aload (m_getr (m_aload (m_geti (m_ald (m_ast (m_aload (m_dup (m_geti (m_iconst (m_bin (m_puti (m_ret hi)))))))))))))))))
theorem mobx_104 : xBm bx_104 := fun dl fs i1 i2 fin hi => (m_aload (m_aload (m_getr (m_getr (m_aload (m_getr (m_getr (m_iconst (m_ald (m_callv hi))))))))))
theorem mobx_105 : xBm bx_105 := fun dl fs i1 i2 fin hi => (m_iload (m_istore (m_iload (m_if1 (m_xgo hi) (m_aload (m_getr (m_getr (m_iload (m_ald (m_iconst (m_if2 (m_xgo hi) (m_aload (m_iload (m_callv hi))))))))))))))
theorem mobx_106 : xBm bx_106 := fun dl fs i1 i2 fin hi => (m_iload (m_if1 (m_xgo hi) (m_aload (m_getr (m_getr (m_iload (m_ald (m_iconst (m_if2 (m_xgo hi) (m_aload (m_iload (m_callv hi))))))))))))
theorem mobx_107 : xBm bx_107 := fun dl fs i1 i2 fin hi => (m_xgo hi)
theorem mobx_108 : xBm bx_108 := fun dl fs i1 i2 fin hi => (m_aload (m_getr (m_getr (m_iload (m_ald (m_iconst (m_if2 (m_xgo hi) (m_aload (m_iload (m_callv hi))))))))))
theorem mobx_109 : xBm bx_109 := fun dl fs i1 i2 fin hi => (m_aload (m_getr (m_getr (m_iload (m_ald (m_istore (m_xgo hi)))))))
theorem mobx_110 : xBm bx_110 := fun dl fs i1 i2 fin hi => (m_iload (m_istore (m_iload (m_if1 (m_xgo hi) (m_aload (m_getr (m_getr (m_iload (m_ald (m_look (And.intro (And.intro rfl (m_xgo hi)) (And.intro (And.intro rfl (m_xgo hi)) (And.intro (And.intro rfl (m_xgo hi)) True.intro))) (m_xgo hi)))))))))))
theorem mobx_111 : xBm bx_111 := fun dl fs i1 i2 fin hi => (m_iload (m_if1 (m_xgo hi) (m_aload (m_getr (m_getr (m_iload (m_ald (m_look (And.intro (And.intro rfl (m_xgo hi)) (And.intro (And.intro rfl (m_xgo hi)) (And.intro (And.intro rfl (m_xgo hi)) True.intro))) (m_xgo hi)))))))))
theorem mobx_112 : xBm bx_112 := fun dl fs i1 i2 fin hi => (m_aload (m_iload (m_callv hi)))
theorem mobx_113 : xBm bx_113 := fun dl fs i1 i2 fin hi => (m_xgo hi)
theorem mobx_114 : xBm bx_114 := fun dl fs i1 i2 fin hi => (m_aload (m_iload (m_callv hi)))
theorem mobx_115 : xBm bx_115 := fun dl fs i1 i2 fin hi => (m_xgo hi)
theorem mobx_116 : xBm bx_116 := fun dl fs i1 i2 fin hi => (m_aload (m_iload (m_callv hi)))
theorem mobx_117 : xBm bx_117 := fun dl fs i1 i2 fin hi => (m_xgo hi)
theorem mobx_118 : xBm bx_118 := fun dl fs i1 i2 fin hi => (m_aload (m_iload (m_callv hi)))
theorem mobx_119 : xBm bx_119 := fun dl fs i1 i2 fin hi => (m_aload (m_getr (m_getr (m_iload (m_ald (m_istore (m_xgo hi)))))))
theorem mobx_120 : xBm bx_120 := fun dl fs i1 i2 fin hi => (m_iload (m_istore (m_iload (m_if1 (m_xgo hi) (m_aload (m_getr (m_getr (m_iload (m_ald (m_iconst (m_if2 (m_xgo hi) (m_aload (m_iload (m_callv hi))))))))))))))
theorem mobx_121 : xBm bx_121 := fun dl fs i1 i2 fin hi => (m_iload (m_if1 (m_xgo hi) (m_aload (m_getr (m_getr (m_iload (m_ald (m_iconst (m_if2 (m_xgo hi) (m_aload (m_iload (m_callv hi))))))))))))
theorem mobx_122 : xBm bx_122 := fun dl fs i1 i2 fin hi => (m_aload (m_getr (m_getr (m_iload (m_ald (m_istore (m_xgo hi)))))))
theorem mobx_123 : xBm bx_123 := fun dl fs i1 i2 fin hi => (m_ret hi)
theorem mobx_124 : xBm bx_124 := fun dl fs i1 i2 fin hi => (m_aload (m_getr (m_getr (m_iload (m_ald (m_istore (m_aload (m_getr (m_iload (m_ald (m_if1 (m_xgo hi) (m_aload (m_getr (m_aload (m_getr (m_iload (m_ald (m_iconst (m_bin (m_ald (m_istore (m_aload (m_xgo hi)))))))))))))))))))))))
theorem mobx_125 : xBm bx_125 := fun dl fs i1 i2 fin hi => (m_ast (m_ret hi))
theorem mobx_126 : xBm bx_126 := fun dl fs i1 i2 fin hi => (m_aload (m_iload (m_callv hi)))
theorem mobx_127 : xBm bx_127 := fun dl fs i1 i2 fin hi => (m_ret hi)
theorem mobx_128 : xBm bx_128 := fun dl fs i1 i2 fin hi => (m_aload (m_geti (m_istore (m_iconst (m_istore (m_iload (m_istore (m_iload (m_iload (m_if2 (m_xgo hi) (m_aload (m_getr (m_getr (m_iload (m_ald (m_table (And.intro (m_xgo hi) (And.intro (m_xgo hi) (And.intro (m_xgo hi) (And.intro (m_xgo hi) (And.intro (m_xgo hi) True.intro))))) (m_xgo hi)))))))))))))))))
theorem mobx_129 : xBm bx_129 := fun dl fs i1 i2 fin hi => (m_iload (m_iload (m_if2 (m_xgo hi) (m_aload (m_getr (m_getr (m_iload (m_ald (m_table (And.intro (m_xgo hi) (And.intro (m_xgo hi) (And.intro (m_xgo hi) (And.intro (m_xgo hi) (And.intro (m_xgo hi) True.intro))))) (m_xgo hi))))))))))
theorem mobx_130 : xBm bx_130 := fun dl fs i1 i2 fin hi => (m_aload (m_iload (m_iload (m_callv hi))))
theorem mobx_131 : xBm bx_131 := fun dl fs i1 i2 fin hi => (m_xgo hi)
theorem mobx_132 : xBm bx_132 := fun dl fs i1 i2 fin hi => (m_iinc (m_xgo hi))
theorem mobx_133 : xBm bx_133 := fun dl fs i1 i2 fin hi => (m_iinc (m_aload (m_iload (m_callv hi))))
theorem mobx_134 : xBm bx_134 := fun dl fs i1 i2 fin hi => (m_xgo hi)
theorem mobx_135 : xBm bx_135 := fun dl fs i1 i2 fin hi => (m_iinc (m_xgo hi))
theorem mobx_136 : xBm bx_136 := fun dl fs i1 i2 fin hi => (m_iload (m_iconst (m_if2 (m_xgo hi) m_no)))
theorem mobx_137 : xBm bx_137 := fun dl fs i1 i2 fin hi => (m_ret hi)
theorem mobx_138 : xBm bx_138 := fun dl fs i1 i2 fin hi => (m_aload (m_getr (m_getr (m_iload (m_ald (m_istore (m_aload (m_getr (m_iconst (m_iconst (m_ast (m_aload (m_iload (m_iconst (m_bin (m_aload (m_getr (m_getr (m_iload (m_ald (m_aload (m_getr (m_xgo hi)))))))))))))))))))))))
theorem mobx_139 : xBm bx_139 := fun dl fs i1 i2 fin hi => (m_aload (m_aload (m_getr (m_getr (m_iload (m_ald (m_iconst (m_callv hi))))))))
theorem mobx_140 : xBm bx_140 := fun dl fs i1 i2 fin hi => (m_aload (m_getr (m_getr (m_iload (m_ald (m_iconst (m_if2 m_no (m_aload (m_aload (m_getr (m_getr (m_iload (m_ald (m_callv hi))))))))))))))
theorem mobx_141 : xBm bx_141 := fun dl fs i1 i2 fin hi => (m_xgo hi)
theorem mobx_142 : xBm bx_142 := fun dl fs i1 i2 fin hi => (m_aload (m_iconst (m_callv hi)))
theorem mobx_143 : xBm bx_143 := fun dl fs i1 i2 fin hi => (m_aload (m_getr (m_getr (m_iload (m_aload (m_getr (m_iconst (m_ald (m_ast (m_ret hi))))))))))
theorem mobx_144 : xBm bx_144 := fun dl fs i1 i2 fin hi => (m_iconst (m_istore (m_aload (m_getr (m_getr (m_aload (m_getr (m_getr (m_iload (m_ald (m_ald (m_istore (m_xgo hi)))))))))))))
theorem mobx_145 : xBm bx_145 := fun dl fs i1 i2 fin hi => (m_iload (m_if1 (m_xgo hi) (m_iload (m_iconst (m_if2 (m_xgo hi) (m_aload (m_getr (m_iload (m_iload (m_ast (m_iload (m_iconst (m_bin (m_istore (m_iload (m_if1 (m_xgo hi) (m_aload (m_aload (m_getr (m_iload (m_ald (m_callv hi))))))))))))))))))))))
theorem mobx_146 : xBm bx_146 := fun dl fs i1 i2 fin hi => (m_aload (m_iload (m_callv hi)))
theorem mobx_147 : xBm bx_147 := fun dl fs i1 i2 fin hi => (m_if2 (m_xgo hi) (m_aload (m_aload (m_getr (m_iload (m_ald (m_callv hi)))))))
theorem mobx_148 : xBm bx_148 := fun dl fs i1 i2 fin hi => (m_aload (m_iload (m_callv hi)))
theorem mobx_149 : xBm bx_149 := fun dl fs i1 i2 fin hi => (m_if2 m_no (m_aload (m_aload (m_getr (m_iload (m_ald (m_callv hi)))))))
theorem mobx_150 : xBm bx_150 := fun dl fs i1 i2 fin hi => (m_aload (m_iload (m_callv hi)))
theorem mobx_151 : xBm bx_151 := fun dl fs i1 i2 fin hi => (m_if2 m_no (m_aload (m_iload (m_callv hi))))
theorem mobx_152 : xBm bx_152 := fun dl fs i1 i2 fin hi => (m_iconst (m_if2 (m_xgo hi) m_no))
theorem mobx_153 : xBm bx_153 := fun dl fs i1 i2 fin hi => (m_iinc (m_aload (m_getr (m_getr (m_aload (m_getr (m_getr (m_iload (m_ald (m_ald (m_istore (m_xgo hi))))))))))))
theorem mobx_154 : xBm bx_154 := fun dl fs i1 i2 fin hi => (m_ret hi)
theorem mobx_155 : xBm bx_155 := fun dl fs i1 i2 fin hi => (m_aload (m_getr (m_getr (m_iload (m_ald (m_iconst (m_if2 (m_xgo hi) m_no)))))))
theorem mobx_156 : xBm bx_156 := fun dl fs i1 i2 fin hi => (m_aload (m_iload (m_iconst (m_bin (m_aload (m_getr (m_getr (m_iload (m_ald (m_iconst (m_callv hi)))))))))))
theorem mobx_157 : xBm bx_157 := fun dl fs i1 i2 fin hi => (m_ret hi)
theorem mobx_158 : xBm bx_158 := fun dl fs i1 i2 fin hi => (m_iload (m_istore (m_iload (m_iload (m_if2 (m_xgo hi) (m_aload (m_getr (m_getr (m_iload (m_ald (m_iconst (m_if2 (m_xgo hi) (m_aload (m_getr (m_iconst (m_aload (m_getr (m_getr (m_iload (m_ald (m_bin (m_ald (m_xgo hi)))))))))))))))))))))))
theorem mobx_159 : xBm bx_159 := fun dl fs i1 i2 fin hi => (m_iload (m_iload (m_if2 (m_xgo hi) (m_aload (m_getr (m_getr (m_iload (m_ald (m_iconst (m_if2 (m_xgo hi) (m_aload (m_getr (m_iconst (m_aload (m_getr (m_getr (m_iload (m_ald (m_bin (m_ald (m_istore (m_iload (m_xgo hi)))))))))))))))))))))))
theorem mobx_160 : xBm bx_160 := fun dl fs i1 i2 fin hi => (m_aload (m_getr (m_iload (m_callv hi))))
theorem mobx_161 : xBm bx_161 := fun dl fs i1 i2 fin hi => (m_aload (m_getr (m_getr (m_iload (m_ald (m_if2 (m_xgo hi) m_no))))))
theorem mobx_162 : xBm bx_162 := fun dl fs i1 i2 fin hi => (m_aload (m_getr (m_getr (m_iload (m_iconst (m_ast (m_aload (m_getr (m_getr (m_iload (m_iload (m_ast (m_xgo hi)))))))))))))
theorem mobx_163 : xBm bx_163 := fun dl fs i1 i2 fin hi => (m_iload (m_if1 (m_xgo hi) m_no))
theorem mobx_164 : xBm bx_164 := fun dl fs i1 i2 fin hi => (m_iinc (m_xgo hi))
theorem mobx_165 : xBm bx_165 := fun dl fs i1 i2 fin hi => (m_ret hi)
theorem mobx_166 : xBm bx_166 := fun dl fs i1 i2 fin hi => (m_aload (m_getr (m_getr (m_iload (m_ald (m_istore (m_aload (m_getr (m_aload (m_getr (m_aload (m_getr (m_getr (m_iload (m_ald (m_callv hi))))))))))))))))
theorem mobx_167 : xBm bx_167 := fun dl fs i1 i2 fin hi => (m_iload (m_callv hi))
theorem mobx_168 : xBm bx_168 := fun dl fs i1 i2 fin hi => (m_istore (m_aload (m_getr (m_iconst (m_iload (m_bin (m_ald (m_if1 (m_xgo hi) m_no))))))))
theorem mobx_169 : xBm bx_169 := fun dl fs i1 i2 fin hi => (m_aload (m_getr (m_iconst (m_iload (m_bin (m_iconst (m_iload (m_bin (m_ast (m_aload (m_getr (m_getr (m_iload (m_ald (m_istore (m_xgo hi))))))))))))))))
theorem mobx_170 : xBm bx_170 := fun dl fs i1 i2 fin hi => (m_iload (m_if1 (m_xgo hi) (m_aload (m_getr (m_getr (m_iload (m_ald (m_istore (m_aload (m_getr (m_iload (m_iload (m_aload (m_getr (m_aload (m_getr (m_getr (m_iload (m_ald (m_callv hi))))))))))))))))))))
theorem mobx_171 : xBm bx_171 := fun dl fs i1 i2 fin hi => (m_iload (m_callv hi))
theorem mobx_172 : xBm bx_172 := fun dl fs i1 i2 fin hi => (m_istore (m_aload (m_getr (m_iconst (m_iload (m_bin (m_ald (m_if1 (m_xgo hi) m_no))))))))
theorem mobx_173 : xBm bx_173 := fun dl fs i1 i2 fin hi => (m_aload (m_getr (m_iconst (m_iload (m_bin (m_iload (m_iconst (m_bin (m_ast (m_aload (m_getr (m_getr (m_iload (m_ald (m_istore (m_xgo hi))))))))))))))))
theorem mobx_174 : xBm bx_174 := fun dl fs i1 i2 fin hi => (m_ret hi)
theorem mobx_175 : xBm bx_175 := fun dl fs i1 i2 fin hi => (m_aload (m_getr (m_getr (m_iload (m_ald (m_istore (m_aload (m_getr (m_iconst (m_iload (m_bin (m_ald (m_if1 (m_xgo hi) m_no)))))))))))))
theorem mobx_176 : xBm bx_176 := fun dl fs i1 i2 fin hi => (m_aload (m_getr (m_iconst (m_iload (m_bin (m_iconst (m_aload (m_getr (m_iload (m_aload (m_getr (m_getr (m_iload (m_ald (m_callv hi)))))))))))))))
theorem mobx_177 : xBm bx_177 := fun dl fs i1 i2 fin hi => (m_bin (m_ast (m_ret hi)))
theorem mobx_178 : xBm bx_178 := fun dl fs i1 i2 fin hi => (m_aload (m_getr (m_getr (m_iload (m_ald (m_istore (m_aload (m_getr (m_iload (m_ald (m_iload (m_if2 (m_xgo hi) m_no))))))))))))
theorem mobx_179 : xBm bx_179 := fun dl fs i1 i2 fin hi => (m_aload (m_geti (m_iconst (m_if2 (m_xgo hi) (m_aload (m_getr (m_aload (m_geti (m_iload (m_ast (m_aload (m_getr (m_aload (m_geti (m_aload (m_getr (m_iload (m_ald (m_ast (m_aload (m_dup (m_geti (m_xgo hi)))))))))))))))))))))))
theorem mobx_180 : xBm bx_180 := fun dl fs i1 i2 fin hi => (m_aload (m_getr (m_iconst (m_iload (m_bin (m_ald (m_aload (m_geti (m_if2 m_no (m_iconst (m_xgo hi)))))))))))
theorem mobx_181 : xBm bx_181 := fun dl fs i1 i2 fin hi => (m_zret hi)
theorem mobx_182 : xBm bx_182 := fun dl fs i1 i2 fin hi => (m_aload (m_iload (m_callv hi)))
theorem mobx_183 : xBm bx_183 := fun dl fs i1 i2 fin hi => (m_aload (m_iload (m_callv hi)))
theorem mobx_184 : xBm bx_184 := fun dl fs i1 i2 fin hi => (m_bin (m_istore (m_iload (m_if1 m_no (m_iload (m_if1 (m_xgo hi) (m_aload (m_iload (m_callv hi)))))))))
theorem mobx_185 : xBm bx_185 := fun dl fs i1 i2 fin hi => (m_iconst (m_if2 (m_xgo hi) m_no))
theorem mobx_186 : xBm bx_186 := fun dl fs i1 i2 fin hi => (m_iconst (m_zret hi))
theorem mobx_187 : xBm bx_187 := fun dl fs i1 i2 fin hi => (m_aload (m_getr (m_iconst (m_aload (m_getr (m_getr (m_iload (m_ald (m_iload (m_iload (m_callv hi)))))))))))
theorem mobx_188 : xBm bx_188 := fun dl fs i1 i2 fin hi => (m_istore (m_aload (m_getr (m_getr (m_iload (m_iconst (m_ast (m_aload (m_getr (m_getr (m_iload (m_iload (m_ast (m_aload (m_getr (m_getr (m_iload (m_iconst (m_ast (m_iload (m_iret hi)))))))))))))))))))))
theorem mobx_189 : xBm bx_189 := fun dl fs i1 i2 fin hi => (m_iconst (m_istore (m_iload (m_iconst (m_if2 (m_xgo hi) (m_aload (m_getr (m_iload (m_ald (m_iconst (m_if2 (m_xgo hi) m_no)))))))))))
theorem mobx_190 : xBm bx_190 := fun dl fs i1 i2 fin hi => (m_iload (m_iconst (m_if2 (m_xgo hi) (m_aload (m_getr (m_iload (m_ald (m_iconst (m_if2 (m_xgo hi) m_no)))))))))
theorem mobx_191 : xBm bx_191 := fun dl fs i1 i2 fin hi => (m_iinc (m_xgo hi))
theorem mobx_192 : xBm bx_192 := fun dl fs i1 i2 fin hi => (m_iconst (m_iret hi))
theorem mobx_193 : xBm bx_193 := fun dl fs i1 i2 fin hi => (m_aload (m_geti (m_iload (m_if2 (m_xgo hi) (m_aload (m_dup (m_geti (m_iconst (m_bin (m_puti (m_aload (m_getr (m_aload (m_getr (m_getr (m_aload (m_getr (m_aload (m_geti (m_ald (m_ald (m_aload (m_xgo hi)))))))))))))))))))))))
theorem mobx_194 : xBm bx_194 := fun dl fs i1 i2 fin hi => (m_ret hi)
theorem mobx_195 : xBm bx_195 := fun dl fs i1 i2 fin hi => (m_aload (m_callv hi))
theorem mobx_196 : xBm bx_196 := fun dl fs i1 i2 fin hi => (m_istore (m_iload (m_if1 m_no (m_iconst (m_xgo hi)))))
theorem mobx_197 : xBm bx_197 := fun dl fs i1 i2 fin hi => (m_iret hi)
theorem mobx_198 : xBm bx_198 := fun dl fs i1 i2 fin hi => (m_aload (m_iload (m_callv hi)))
theorem mobx_199 : xBm bx_199 := fun dl fs i1 i2 fin hi => (m_iconst (m_istore (m_iconst (m_istore (m_aload (m_getr (m_iconst (m_aload (m_getr (m_getr (m_iload (m_ald (m_ast (m_aload (m_getr (m_getr (m_aload (m_getr (m_getr (m_iload (m_ald (m_ald (m_xgo hi)))))))))))))))))))))))
theorem mobx_200 : xBm bx_200 := fun dl fs i1 i2 fin hi => (m_iload (m_if1 (m_xgo hi) (m_iload (m_iconst (m_if2 (m_xgo hi) (m_aload (m_getr (m_getr (m_iload (m_ald (m_istore (m_aload (m_getr (m_getr (m_iload (m_ald (m_istore (m_iload (m_if1 (m_xgo hi) (m_aload (m_aload (m_getr (m_xgo hi)))))))))))))))))))))))
theorem mobx_201 : xBm bx_201 := fun dl fs i1 i2 fin hi => (m_if1 (m_xgo hi) m_no)
theorem mobx_202 : xBm bx_202 := fun dl fs i1 i2 fin hi => (m_aload (m_getr (m_iload (m_iload (m_ast (m_iinc (m_aload (m_getr (m_iload (m_iload (m_ast (m_iinc (m_iload (m_istore (m_xgo hi)))))))))))))))
theorem mobx_203 : xBm bx_203 := fun dl fs i1 i2 fin hi => (m_iload (m_iconst (m_if2 (m_xgo hi) (m_iinc (m_iinc (m_aload (m_getr (m_iload (m_iconst (m_bin (m_aload (m_aload (m_getr (m_iload (m_ald (m_aload (m_getr (m_iload (m_iconst (m_bin (m_ald (m_aload (m_xgo hi)))))))))))))))))))))))
theorem mobx_204 : xBm bx_204 := fun dl fs i1 i2 fin hi => (m_ast (m_xgo hi))
theorem mobx_205 : xBm bx_205 := fun dl fs i1 i2 fin hi => (m_aload (m_getr (m_getr (m_aload (m_getr (m_iconst (m_ald (m_aload (m_getr (m_iconst (m_ald (m_ast (m_aload (m_getr (m_getr (m_aload (m_getr (m_iconst (m_ald (m_iconst (m_ast (m_aload (m_xgo hi)))))))))))))))))))))))
theorem mobx_206 : xBm bx_206 := fun dl fs i1 i2 fin hi => (m_aload (m_getr (m_iconst (m_aload (m_getr (m_getr (m_iload (m_ald (m_bin (m_ald (m_istore (m_iload (m_if1 (m_xgo hi) m_no)))))))))))))
theorem mobx_207 : xBm bx_207 := fun dl fs i1 i2 fin hi => (m_iload (m_iconst (m_bin (m_iconst (m_divr (m_iret hi))))))
theorem mobx_208 : xBm bx_208 := fun dl fs i1 i2 fin hi => (m_aload (m_getr (m_getr (m_iload (m_ald (m_if1 (m_xgo hi) (m_aload (m_getr (m_getr (m_iload (m_ald (m_istore (m_aload (m_getr (m_iload (m_dup2 (m_ald (m_iconst (m_bin (m_ast (m_aload (m_getr (m_xgo hi)))))))))))))))))))))))
theorem mobx_209 : xBm bx_209 := fun dl fs i1 i2 fin hi => (m_aload (m_getr (m_getr (m_iload (m_ald (m_iret hi))))))
theorem mobx_210 : xBm bx_210 := fun dl fs i1 i2 fin hi => (m_aload (m_aload (m_putr (m_aload (m_iload (m_puti (m_aload (m_iconst (m_puti (m_aload (m_iconst (m_puti (m_aload (m_getr (m_iconst (m_iconst (m_ast (m_aload (m_iconst (m_puti (m_aload (m_getr (m_xgo hi)))))))))))))))))))))))
theorem mobx_211 : xBm bx_211 := fun dl fs i1 i2 fin hi => (m_ret hi)
theorem mobx_212 : xBm bx_212 := fun dl fs i1 i2 fin hi => (m_aload (m_getr (m_iconst (m_aload (m_getr (m_getr (m_iload (m_ald (m_bin (m_ald (m_istore (m_iload (m_if1 (m_xgo hi) m_no)))))))))))))
theorem mobx_213 : xBm bx_213 := fun dl fs i1 i2 fin hi => (m_iload (m_iconst (m_bin (m_iconst (m_divr (m_iret hi))))))
theorem mobx_214 : xBm bx_214 := fun dl fs i1 i2 fin hi => (m_aload (m_obj (m_aload (m_iconst (m_newa (m_putr (m_aload (m_iconst (m_newa (m_putr (m_aload (m_iconst (m_newa (m_putr (m_aload (m_iconst (m_newa (m_putr (m_aload (m_iconst (m_newa (m_putr (m_xgo hi)))))))))))))))))))))))
theorem mobx_215 : xBm bx_215 := fun dl fs i1 i2 fin hi => (m_aload (m_geti (m_iconst (m_if2 (m_xgo hi) m_no))))
theorem mobx_216 : xBm bx_216 := fun dl fs i1 i2 fin hi => (m_aload (m_geti (m_istore (m_aload (m_dup (m_geti (m_iconst (m_bin (m_puti (m_aload (m_getr (m_iload (m_iload (m_ast (m_aload (m_getr (m_iload (m_iload (m_ast (m_aload (m_getr (m_iload (m_xgo hi)))))))))))))))))))))))
theorem mobx_217 : xBm bx_217 := fun dl fs i1 i2 fin hi => (m_iconst (m_istore (m_iload (m_istore (m_iload (m_if1 (m_xgo hi) (m_iload (m_iconst (m_if2 (m_xgo hi) (m_iinc (m_aload (m_getr (m_iload (m_ald (m_istore (m_xgo hi))))))))))))))))
theorem mobx_218 : xBm bx_218 := fun dl fs i1 i2 fin hi => (m_iload (m_if1 (m_xgo hi) (m_iload (m_iconst (m_if2 (m_xgo hi) (m_iinc (m_aload (m_getr (m_iload (m_ald (m_istore (m_xgo hi))))))))))))
theorem mobx_219 : xBm bx_219 := fun dl fs i1 i2 fin hi => (m_iload (m_iret hi))
theorem mobx_220 : xBm bx_220 := fun dl fs i1 i2 fin hi => (m_aload (m_obj (m_aload (m_iconst (m_newa (m_putr (m_aload (m_iconst (m_newa (m_putr (m_aload (m_iconst (m_newa (m_putr (m_aload (m_iconst (m_newa (m_putr (m_aload (m_aload (m_putr (m_aload (m_xgo hi)))))))))))))))))))))))
theorem mobx_221 : xBm bx_221 := fun dl fs i1 i2 fin hi => (m_iload (m_iconst (m_if2 (m_xgo hi) (m_aload (m_getr (m_iconst (m_iload (m_bin (m_iload (m_i2l (m_iconst (m_lsh (m_last (m_iinc (m_xgo hi)))))))))))))))
theorem mobx_222 : xBm bx_222 := fun dl fs i1 i2 fin hi => (m_ret hi)
theorem mobx_223 : xBm bx_223 := fun dl fs i1 i2 fin hi => (m_aload (m_iconst (m_iconst (m_callv hi))))
theorem mobx_224 : xBm bx_224 := fun dl fs i1 i2 fin hi => (m_istore (m_aload (m_iload (m_iconst (m_iload (m_callv hi))))))
theorem mobx_225 : xBm bx_225 := fun dl fs i1 i2 fin hi => (m_aload (m_iload (m_iconst (m_iload (m_callv hi)))))
theorem mobx_226 : xBm bx_226 := fun dl fs i1 i2 fin hi => (m_iload (m_iret hi))
theorem mobx_227 : xBm bx_227 := fun dl fs i1 i2 fin hi => (m_iload (m_istore (m_iconst (m_istore (m_iload (m_iload (m_if2 (m_xgo hi) (m_aload (m_aload (m_callv hi))))))))))
theorem mobx_228 : xBm bx_228 := fun dl fs i1 i2 fin hi => (m_iload (m_iload (m_if2 (m_xgo hi) (m_aload (m_aload (m_callv hi))))))
theorem mobx_229 : xBm bx_229 := fun dl fs i1 i2 fin hi => (m_iload (m_callv hi))
theorem mobx_230 : xBm bx_230 := fun dl fs i1 i2 fin hi => (m_istore (m_iinc (m_xgo hi)))
theorem mobx_231 : xBm bx_231 := fun dl fs i1 i2 fin hi => (m_iload (m_iret hi))
theorem mobx_232 : xBm bx_232 := fun dl fs i1 i2 fin hi => (m_aload (m_iconst (m_puti (m_aload (m_iconst (m_puti (m_aload (m_iconst (m_puti (m_aload (m_iconst (m_puti (m_ret hi)))))))))))))
theorem mobx_233 : xBm bx_233 := fun dl fs i1 i2 fin hi => (m_iconst (m_iload (m_bin (m_iret hi))))
theorem mobx_234 : xBm bx_234 := fun dl fs i1 i2 fin hi => (m_aload (m_getr (m_iload (m_lald (m_iconst (m_lsh (m_l2i (m_iconst (m_bin (m_iret hi))))))))))
theorem mobx_235 : xBm bx_235 := fun dl fs i1 i2 fin hi => (m_aload (m_getr (m_getr (m_iload (m_ald (m_istore (m_aload (m_getr (m_getr (m_iload (m_ald (m_istore (m_aload (m_getr (m_iload (m_callv hi))))))))))))))))
theorem mobx_236 : xBm bx_236 := fun dl fs i1 i2 fin hi => (m_istore (m_iload (m_if1 (m_xgo hi) (m_iload (m_calls hi)))))
theorem mobx_237 : xBm bx_237 := fun dl fs i1 i2 fin hi => (m_xgo hi)
theorem mobx_238 : xBm bx_238 := fun dl fs i1 i2 fin hi => (m_aload (m_iload (m_iload (m_callv hi))))
theorem mobx_239 : xBm bx_239 := fun dl fs i1 i2 fin hi => (m_istore (m_aload (m_iconst (m_puti (m_iload (m_iconst (m_if2 (m_xgo hi) (m_iconst (m_istore (m_xgo hi))))))))))
theorem mobx_240 : xBm bx_240 := fun dl fs i1 i2 fin hi => (m_iload (m_iload (m_if2 (m_xgo hi) (m_aload (m_iload (m_iload (m_aload (m_callv hi))))))))
theorem mobx_241 : xBm bx_241 := fun dl fs i1 i2 fin hi => (m_callv hi)
theorem mobx_242 : xBm bx_242 := fun dl fs i1 i2 fin hi => (m_iinc (m_xgo hi))
theorem mobx_243 : xBm bx_243 := fun dl fs i1 i2 fin hi => (m_xgo hi)
theorem mobx_244 : xBm bx_244 := fun dl fs i1 i2 fin hi => (m_aload (m_getr (m_getr (m_aload (m_getr (m_getr (m_iload (m_iconst (m_bin (m_ald (m_ald (m_istore (m_iconst (m_istore (m_iload (m_iload (m_if2 (m_xgo hi) m_no)))))))))))))))))
theorem mobx_245 : xBm bx_245 := fun dl fs i1 i2 fin hi => (m_aload (m_getr (m_getr (m_iload (m_ald (m_istore (m_aload (m_iload (m_iconst (m_bin (m_aload (m_getr (m_getr (m_iload (m_ald (m_iconst (m_callv hi)))))))))))))))))
theorem mobx_246 : xBm bx_246 := fun dl fs i1 i2 fin hi => (m_aload (m_iconst (m_iload (m_iconst (m_bin (m_callv hi))))))
theorem mobx_247 : xBm bx_247 := fun dl fs i1 i2 fin hi => (m_istore (m_aload (m_iload (m_iconst (m_iload (m_callv hi))))))
theorem mobx_248 : xBm bx_248 := fun dl fs i1 i2 fin hi => (m_iload (m_iconst (m_if2 (m_xgo hi) (m_iconst (m_xgo hi)))))
theorem mobx_249 : xBm bx_249 := fun dl fs i1 i2 fin hi => (m_aload (m_getr (m_getr (m_aload (m_getr (m_getr (m_iload (m_ald (m_ald (m_xgo hi))))))))))
theorem mobx_250 : xBm bx_250 := fun dl fs i1 i2 fin hi => (m_istore (m_iconst (m_istore (m_iload (m_iload (m_if2 (m_xgo hi) (m_aload (m_iload (m_iload (m_iconst (m_bin (m_iload (m_if1 (m_xgo hi) m_no)))))))))))))
theorem mobx_251 : xBm bx_251 := fun dl fs i1 i2 fin hi => (m_iload (m_iload (m_if2 (m_xgo hi) (m_aload (m_iload (m_iload (m_iconst (m_bin (m_iload (m_if1 (m_xgo hi) m_no))))))))))
theorem mobx_252 : xBm bx_252 := fun dl fs i1 i2 fin hi => (m_iload (m_iconst (m_if2 (m_xgo hi) (m_iload (m_iconst (m_if2 (m_xgo hi) (m_iload (m_xgo hi))))))))
theorem mobx_253 : xBm bx_253 := fun dl fs i1 i2 fin hi => (m_aload (m_iload (m_iload (m_callv hi))))
theorem mobx_254 : xBm bx_254 := fun dl fs i1 i2 fin hi => (m_callv hi)
theorem mobx_255 : xBm bx_255 := fun dl fs i1 i2 fin hi => (m_aload (m_getr (m_getr (m_iload (m_ald (m_istore (m_iinc (m_xgo hi))))))))
theorem mobx_256 : xBm bx_256 := fun dl fs i1 i2 fin hi => (m_iload (m_iret hi))
theorem mobx_257 : xBm bx_257 := fun dl fs i1 i2 fin hi => (m_aload (m_iload (m_iconst (m_callv hi))))
theorem mobx_258 : xBm bx_258 := fun dl fs i1 i2 fin hi => (m_istore (m_aload (m_getr (m_getr (m_iload (m_ald (m_istore (m_iload (m_if1 (m_xgo hi) (m_aload (m_aload (m_iload (m_iload (m_callv hi))))))))))))))
theorem mobx_259 : xBm bx_259 := fun dl fs i1 i2 fin hi => (m_iload (m_if1 (m_xgo hi) (m_aload (m_aload (m_iload (m_iload (m_callv hi)))))))
theorem mobx_260 : xBm bx_260 := fun dl fs i1 i2 fin hi => (m_iload (m_callv hi))
theorem mobx_261 : xBm bx_261 := fun dl fs i1 i2 fin hi => (m_istore (m_iinc (m_xgo hi)))
theorem mobx_262 : xBm bx_262 := fun dl fs i1 i2 fin hi => (m_iload (m_iret hi))
theorem mobx_263 : xBm bx_263 := fun dl fs i1 i2 fin hi => (m_iload (m_istore (m_iload (m_iload (m_if2 (m_xgo hi) (m_aload (m_getr (m_getr (m_iload (m_ald (m_iconst (m_if2 (m_xgo hi) (m_aload (m_getr (m_getr (m_iload (m_aload (m_aload (m_getr (m_getr (m_iload (m_ald (m_xgo hi)))))))))))))))))))))))
theorem mobx_264 : xBm bx_264 := fun dl fs i1 i2 fin hi => (m_iload (m_iload (m_if2 (m_xgo hi) (m_aload (m_getr (m_getr (m_iload (m_ald (m_iconst (m_if2 (m_xgo hi) (m_aload (m_getr (m_getr (m_iload (m_aload (m_aload (m_getr (m_getr (m_iload (m_ald (m_iload (m_callv hi))))))))))))))))))))))
theorem mobx_265 : xBm bx_265 := fun dl fs i1 i2 fin hi => (m_ast (m_xgo hi))
theorem mobx_266 : xBm bx_266 := fun dl fs i1 i2 fin hi => (m_aload (m_getr (m_getr (m_iload (m_ald (m_if1 (m_xgo hi) (m_aload (m_getr (m_getr (m_iload (m_aload (m_getr (m_getr (m_iload (m_ald (m_calls hi))))))))))))))))
theorem mobx_267 : xBm bx_267 := fun dl fs i1 i2 fin hi => (m_ast (m_xgo hi))
theorem mobx_268 : xBm bx_268 := fun dl fs i1 i2 fin hi => (m_aload (m_getr (m_getr (m_iload (m_ald (m_istore (m_aload (m_aload (m_getr (m_getr (m_iload (m_ald (m_iload (m_callv hi))))))))))))))
theorem mobx_269 : xBm bx_269 := fun dl fs i1 i2 fin hi => (m_istore (m_aload (m_getr (m_getr (m_iload (m_ald (m_istore (m_iconst (m_istore (m_xgo hi))))))))))
theorem mobx_270 : xBm bx_270 := fun dl fs i1 i2 fin hi => (m_iload (m_iload (m_if2 (m_xgo hi) (m_aload (m_iload (m_iload (m_aload (m_getr (m_getr (m_iload (m_ald (m_callv hi))))))))))))
theorem mobx_271 : xBm bx_271 := fun dl fs i1 i2 fin hi => (m_aload (m_getr (m_getr (m_iload (m_ald (m_istore (m_iinc (m_xgo hi))))))))
theorem mobx_272 : xBm bx_272 := fun dl fs i1 i2 fin hi => (m_aload (m_getr (m_getr (m_iload (m_iload (m_ast (m_iinc (m_xgo hi))))))))
theorem mobx_273 : xBm bx_273 := fun dl fs i1 i2 fin hi => (m_iinc (m_xgo hi))
theorem mobx_274 : xBm bx_274 := fun dl fs i1 i2 fin hi => (m_ret hi)
theorem mobx_275 : xBm bx_275 := fun dl fs i1 i2 fin hi => (m_iload (m_istore (m_iconst (m_istore (m_iload (m_iconst (m_if2 (m_xgo hi) (m_aload (m_getr (m_iload (m_lald (m_lconst (m_lcmp (m_if1 (m_xgo hi) (m_aload (m_getr (m_iload (m_lald (m_iconst (m_lsh (m_l2i (m_iconst (m_xgo hi)))))))))))))))))))))))
theorem mobx_276 : xBm bx_276 := fun dl fs i1 i2 fin hi => (m_iload (m_iconst (m_if2 (m_xgo hi) (m_aload (m_getr (m_iload (m_lald (m_lconst (m_lcmp (m_if1 (m_xgo hi) (m_aload (m_getr (m_iload (m_lald (m_iconst (m_lsh (m_l2i (m_iconst (m_bin (m_istore (m_iinc (m_xgo hi))))))))))))))))))))))
theorem mobx_277 : xBm bx_277 := fun dl fs i1 i2 fin hi => (m_iload (m_iret hi))
theorem mobx_278 : xBm bx_278 := fun dl fs i1 i2 fin hi => (m_aload (m_dup (m_geti (m_iconst (m_bin (m_puti (m_aload (m_iconst (m_puti (m_iload (m_istore (m_iconst (m_istore (m_xgo hi))))))))))))))
theorem mobx_279 : xBm bx_279 := fun dl fs i1 i2 fin hi => (m_iload (m_iconst (m_if2 (m_xgo hi) (m_iload (m_if1 (m_xgo hi) (m_aload (m_geti (m_if1 (m_xgo hi) (m_xgo hi)))))))))
theorem mobx_280 : xBm bx_280 := fun dl fs i1 i2 fin hi => (m_iload (m_if1 (m_xgo hi) (m_aload (m_getr (m_iload (m_lald (m_iconst (m_lsh (m_l2i (m_iconst (m_bin (m_istore (m_iload (m_aload (m_geti (m_if2 m_no (m_iconst (m_aload (m_geti (m_bin (m_aload (m_geti (m_xgo hi)))))))))))))))))))))))
theorem mobx_281 : xBm bx_281 := fun dl fs i1 i2 fin hi => (m_iload (m_aload (m_geti (m_iconst (m_bin (m_if2 (m_xgo hi) (m_aload (m_getr (m_aload (m_iload (m_callv hi)))))))))))
theorem mobx_282 : xBm bx_282 := fun dl fs i1 i2 fin hi => (m_callv hi)
theorem mobx_283 : xBm bx_283 := fun dl fs i1 i2 fin hi => (m_if1 (m_xgo hi) (m_aload (m_getr (m_iload (m_dup2 (m_lald (m_aload (m_geti (m_iload (m_bin (m_i2l (m_iconst (m_lsh (m_lbin (m_last (m_aload (m_dup (m_geti (m_iconst (m_bin (m_puti (m_aload (m_xgo hi)))))))))))))))))))))))
theorem mobx_284 : xBm bx_284 := fun dl fs i1 i2 fin hi => (m_iconst (m_istore (m_xgo hi)))
theorem mobx_285 : xBm bx_285 := fun dl fs i1 i2 fin hi => (m_aload (m_getr (m_iconst (m_aload (m_geti (m_bin (m_lald (m_l2i (m_iconst (m_bin (m_istore (m_aload (m_getr (m_iconst (m_aload (m_geti (m_bin (m_lald (m_iconst (m_lsh (m_l2i (m_istore (m_xgo hi)))))))))))))))))))))))
theorem mobx_286 : xBm bx_286 := fun dl fs i1 i2 fin hi => (m_callv hi)
theorem mobx_287 : xBm bx_287 := fun dl fs i1 i2 fin hi => (m_if2 (m_xgo hi) (m_aload (m_getr (m_iload (m_dup2 (m_lald (m_lconst (m_lbin (m_last (m_aload (m_dup (m_geti (m_iconst (m_bin (m_puti (m_xgo hi))))))))))))))))
theorem mobx_288 : xBm bx_288 := fun dl fs i1 i2 fin hi => (m_aload (m_getr (m_iconst (m_aload (m_geti (m_bin (m_dup2 (m_lald (m_lconst (m_lbin (m_last (m_aload (m_aload (m_iload (m_iload (m_callv hi))))))))))))))))
theorem mobx_289 : xBm bx_289 := fun dl fs i1 i2 fin hi => (m_callv hi)
theorem mobx_290 : xBm bx_290 := fun dl fs i1 i2 fin hi => (m_istore (m_iinc (m_xgo hi)))
theorem mobx_291 : xBm bx_291 := fun dl fs i1 i2 fin hi => (m_iinc (m_xgo hi))
theorem mobx_292 : xBm bx_292 := fun dl fs i1 i2 fin hi => (m_iconst (m_zret hi))
theorem mobx_293 : xBm bx_293 := fun dl fs i1 i2 fin hi => (m_iload (m_iload (m_if2 (m_xgo hi) (m_iconst (m_zret hi)))))
theorem mobx_294 : xBm bx_294 := fun dl fs i1 i2 fin hi => (m_aload (m_iload (m_callv hi)))
theorem mobx_295 : xBm bx_295 := fun dl fs i1 i2 fin hi => (m_istore (m_aload (m_iload (m_callv hi))))
theorem mobx_296 : xBm bx_296 := fun dl fs i1 i2 fin hi => (m_istore (m_iload (m_istore (m_iload (m_istore (m_iload (m_if1 (m_xgo hi) (m_iload (m_if1 (m_xgo hi) (m_xgo hi))))))))))
theorem mobx_297 : xBm bx_297 := fun dl fs i1 i2 fin hi => (m_iload (m_if1 (m_xgo hi) (m_iload (m_xgo hi))))
theorem mobx_298 : xBm bx_298 := fun dl fs i1 i2 fin hi => (m_iload (m_istore (m_iload (m_if1 (m_xgo hi) (m_iload (m_xgo hi))))))
theorem mobx_299 : xBm bx_299 := fun dl fs i1 i2 fin hi => (m_istore (m_iload (m_if1 (m_xgo hi) (m_iload (m_xgo hi)))))
theorem mobx_300 : xBm bx_300 := fun dl fs i1 i2 fin hi => (m_iload (m_istore (m_aload (m_aload (m_geti (m_if1 (m_xgo hi) (m_aload (m_getr (m_iload (m_callv hi))))))))))
theorem mobx_301 : xBm bx_301 := fun dl fs i1 i2 fin hi => (m_istore (m_aload (m_aload (m_geti (m_if1 (m_xgo hi) (m_aload (m_getr (m_iload (m_callv hi)))))))))
theorem mobx_302 : xBm bx_302 := fun dl fs i1 i2 fin hi => (m_if1 (m_xgo hi) (m_aload (m_getr (m_iload (m_callv hi)))))
theorem mobx_303 : xBm bx_303 := fun dl fs i1 i2 fin hi => (m_if1 (m_xgo hi) (m_iconst (m_xgo hi)))
theorem mobx_304 : xBm bx_304 := fun dl fs i1 i2 fin hi => (m_iconst (m_xgo hi))
theorem mobx_305 : xBm bx_305 := fun dl fs i1 i2 fin hi => (m_iconst (m_putz (m_xgo hi)))
theorem mobx_306 : xBm bx_306 := fun dl fs i1 i2 fin hi => (m_putz (m_xgo hi))
theorem mobx_307 : xBm bx_307 := fun dl fs i1 i2 fin hi => (m_iload (m_iload (m_if2 m_no (m_iload (m_iconst (m_if2 m_no (m_iconst (m_aload (m_geti (m_bin (m_aload (m_geti (m_iconst (m_bin (m_if2 (m_xgo hi) m_no)))))))))))))))
theorem mobx_308 : xBm bx_308 := fun dl fs i1 i2 fin hi => (m_aload (m_dup (m_geti (m_iconst (m_bin (m_puti (m_aload (m_getr (m_iconst (m_aload (m_geti (m_bin (m_iload (m_i2l (m_last (m_xgo hi))))))))))))))))
theorem mobx_309 : xBm bx_309 := fun dl fs i1 i2 fin hi => (m_aload (m_getr (m_iload (m_lconst (m_iload (m_i2l (m_iconst (m_lsh (m_lbin (m_aload (m_getr (m_iload (m_lald (m_lconst (m_lbin (m_lbin (m_last (m_iconst (m_zret hi)))))))))))))))))))
theorem mobx_310 : xBm bx_310 := fun dl fs i1 i2 fin hi => (m_aload (m_getr (m_getr (m_iload (m_ald (m_table (And.intro (m_xgo hi) (And.intro (m_xgo hi) (And.intro (m_xgo hi) (And.intro m_no (And.intro (m_xgo hi) (And.intro m_no (And.intro m_no (And.intro (m_xgo hi) (And.intro m_no (And.intro m_no (And.intro m_no (And.intro m_no (And.intro m_no True.intro))))))))))))) m_no))))))
theorem mobx_311 : xBm bx_311 := fun dl fs i1 i2 fin hi => (m_aload (m_aload (m_getr (m_getr (m_aload (m_getr (m_getr (m_iload (m_ald (m_ald (m_iload (m_iload (m_callv hi)))))))))))))
theorem mobx_312 : xBm bx_312 := fun dl fs i1 i2 fin hi => (m_xgo hi)
theorem mobx_313 : xBm bx_313 := fun dl fs i1 i2 fin hi => (m_aload (m_aload (m_aload (m_getr (m_getr (m_iload (m_ald (m_iconst (m_callv hi)))))))))
theorem mobx_314 : xBm bx_314 := fun dl fs i1 i2 fin hi => (m_iload (m_iload (m_callv hi)))
theorem mobx_315 : xBm bx_315 := fun dl fs i1 i2 fin hi => (m_xgo hi)
theorem mobx_316 : xBm bx_316 := fun dl fs i1 i2 fin hi => (m_aload (m_aload (m_aload (m_aload (m_getr (m_getr (m_iload (m_ald (m_callv hi)))))))))
theorem mobx_317 : xBm bx_317 := fun dl fs i1 i2 fin hi => (m_aload (m_getr (m_getr (m_iload (m_ald (m_callv hi))))))
theorem mobx_318 : xBm bx_318 := fun dl fs i1 i2 fin hi => (m_iload (m_iload (m_callv hi)))
theorem mobx_319 : xBm bx_319 := fun dl fs i1 i2 fin hi => (m_xgo hi)
theorem mobx_320 : xBm bx_320 := fun dl fs i1 i2 fin hi => (m_aload (m_aload (m_getr (m_getr (m_iload (m_ald (m_iload (m_callv hi))))))))
theorem mobx_321 : xBm bx_321 := fun dl fs i1 i2 fin hi => (m_istore (m_aload (m_aload (m_getr (m_getr (m_iload (m_ald (m_aload (m_getr (m_getr (m_iload (m_ald (m_iload (m_callv hi))))))))))))))
theorem mobx_322 : xBm bx_322 := fun dl fs i1 i2 fin hi => (m_aload (m_aload (m_getr (m_getr (m_iload (m_ald (m_iload (m_callv hi))))))))
theorem mobx_323 : xBm bx_323 := fun dl fs i1 i2 fin hi => (m_xgo hi)
theorem mobx_324 : xBm bx_324 := fun dl fs i1 i2 fin hi => (m_aload (m_iload (m_iload (m_callv hi))))
theorem mobx_325 : xBm bx_325 := fun dl fs i1 i2 fin hi => (m_xgo hi)
theorem mobx_326 : xBm bx_326 := fun dl fs i1 i2 fin hi => (m_ret hi)
theorem mobx_327 : xBm bx_327 := fun dl fs i1 i2 fin hi => (m_aload (m_callv hi))
theorem mobx_328 : xBm bx_328 := fun dl fs i1 i2 fin hi => (m_istore (m_aload (m_aload (m_getr (m_aload (m_getr (m_getr (m_iload (m_ald (m_callv hi))))))))))
theorem mobx_329 : xBm bx_329 := fun dl fs i1 i2 fin hi => (m_iload (m_callv hi))
theorem mobx_330 : xBm bx_330 := fun dl fs i1 i2 fin hi => (m_istore (m_iload (m_istore (m_aload (m_getr (m_getr (m_iload (m_ald (m_istore (m_xgo hi))))))))))
theorem mobx_331 : xBm bx_331 := fun dl fs i1 i2 fin hi => (m_iload (m_if1 (m_xgo hi) (m_aload (m_getr (m_getr (m_iload (m_aload (m_iload (m_iconst (m_callv hi))))))))))
theorem mobx_332 : xBm bx_332 := fun dl fs i1 i2 fin hi => (m_ast (m_aload (m_iload (m_iconst (m_callv hi)))))
theorem mobx_333 : xBm bx_333 := fun dl fs i1 i2 fin hi => (m_istore (m_aload (m_getr (m_getr (m_iload (m_ald (m_istore (m_xgo hi))))))))
theorem mobx_334 : xBm bx_334 := fun dl fs i1 i2 fin hi => (m_aload (m_iload (m_iload (m_iload (m_callv hi)))))
theorem mobx_335 : xBm bx_335 := fun dl fs i1 i2 fin hi => (m_aload (m_aload (m_getr (m_getr (m_iload (m_ald (m_iload (m_callv hi))))))))
theorem mobx_336 : xBm bx_336 := fun dl fs i1 i2 fin hi => (m_ret hi)
theorem mobx_337 : xBm bx_337 := fun dl fs i1 i2 fin hi => (m_aload (m_iconst (m_puti (m_iload (m_istore (m_iload (m_if1 (m_xgo hi) (m_aload (m_geti (m_if1 (m_xgo hi) (m_aload (m_getr (m_getr (m_iload (m_ald (m_iconst (m_if2 (m_xgo hi) (m_aload (m_callv hi)))))))))))))))))))
theorem mobx_338 : xBm bx_338 := fun dl fs i1 i2 fin hi => (m_iload (m_if1 (m_xgo hi) (m_aload (m_geti (m_if1 (m_xgo hi) (m_aload (m_getr (m_getr (m_iload (m_ald (m_iconst (m_if2 (m_xgo hi) (m_aload (m_callv hi))))))))))))))
theorem mobx_339 : xBm bx_339 := fun dl fs i1 i2 fin hi => (m_aload (m_iload (m_callv hi)))
theorem mobx_340 : xBm bx_340 := fun dl fs i1 i2 fin hi => (m_aload (m_callv hi))
theorem mobx_341 : xBm bx_341 := fun dl fs i1 i2 fin hi => (m_aload (m_getr (m_getr (m_iload (m_ald (m_istore (m_xgo hi)))))))
theorem mobx_342 : xBm bx_342 := fun dl fs i1 i2 fin hi => (m_ret hi)
theorem mobx_343 : xBm bx_343 := fun dl fs i1 i2 fin hi => (m_aload (m_getr (m_getr (m_iload (m_ald (m_table (And.intro (m_xgo hi) (And.intro (m_xgo hi) (And.intro m_no (And.intro (m_xgo hi) (And.intro (m_xgo hi) (And.intro m_no True.intro)))))) (m_xgo hi)))))))
theorem mobx_344 : xBm bx_344 := fun dl fs i1 i2 fin hi => (m_aload (m_getr (m_getr (m_iload (m_iload (m_ast (m_xgo hi)))))))
theorem mobx_345 : xBm bx_345 := fun dl fs i1 i2 fin hi => (m_aload (m_aload (m_getr (m_getr (m_iload (m_ald (m_callv hi)))))))
theorem mobx_346 : xBm bx_346 := fun dl fs i1 i2 fin hi => (m_istore (m_aload (m_aload (m_iload (m_iconst (m_callv hi))))))
theorem mobx_347 : xBm bx_347 := fun dl fs i1 i2 fin hi => (m_iload (m_iload (m_callv hi)))
theorem mobx_348 : xBm bx_348 := fun dl fs i1 i2 fin hi => (m_aload (m_aload (m_getr (m_getr (m_iload (m_ald (m_aload (m_getr (m_getr (m_iload (m_ald (m_iload (m_iconst (m_iconst (m_callv hi)))))))))))))))
theorem mobx_349 : xBm bx_349 := fun dl fs i1 i2 fin hi => (m_xgo hi)
theorem mobx_350 : xBm bx_350 := fun dl fs i1 i2 fin hi => (m_ret hi)
theorem mobx_351 : xBm bx_351 := fun dl fs i1 i2 fin hi => (m_iconst (m_iload (m_iconst (m_divr (m_bin (m_istore (m_aload (m_geti (m_iload (m_bin (m_iconst (m_if2 (m_xgo hi) m_no))))))))))))
theorem mobx_352 : xBm bx_352 := fun dl fs i1 i2 fin hi => (m_aload (m_geti (m_istore (m_aload (m_dup (m_geti (m_iload (m_bin (m_puti (m_aload (m_getr (m_iload (m_aload (m_geti (m_lconst (m_callL hi))))))))))))))))
theorem mobx_353 : xBm bx_353 := fun dl fs i1 i2 fin hi => (m_aload (m_getr (m_iload (m_iload (m_i2l (m_iconst (m_lsh (m_last (m_iload (m_iret hi))))))))))
theorem mobx_354 : xBm bx_354 := fun dl fs i1 i2 fin hi => (m_iload (m_iconst (m_if2 (m_xgo hi) (m_aload (m_getr (m_iload (m_lald (m_iconst (m_iload (m_bin (m_lsh (m_l2i (m_iconst (m_bin (m_xgo hi)))))))))))))))
theorem mobx_355 : xBm bx_355 := fun dl fs i1 i2 fin hi => (m_aload (m_getr (m_iload (m_iload (m_iconst (m_bin (m_iconst (m_divr (m_bin (m_lald (m_iconst (m_iload (m_iconst (m_bin (m_iconst (m_divr (m_bin (m_lsh (m_l2i (m_iconst (m_bin (m_xgo hi))))))))))))))))))))))
theorem mobx_356 : xBm bx_356 := fun dl fs i1 i2 fin hi => (m_iret hi)
theorem mobx_357 : xBm bx_357 := fun dl fs i1 i2 fin hi => (m_iload (m_iconst (m_if2 (m_xgo hi) (m_aload (m_getr (m_iload (m_dup2 (m_lald (m_iload (m_i2l (m_iconst (m_iload (m_bin (m_lsh (m_lbin (m_last (m_xgo hi)))))))))))))))))
theorem mobx_358 : xBm bx_358 := fun dl fs i1 i2 fin hi => (m_aload (m_getr (m_iload (m_iload (m_iconst (m_bin (m_iconst (m_divr (m_bin (m_dup2 (m_lald (m_iload (m_i2l (m_iconst (m_iload (m_iconst (m_bin (m_iconst (m_divr (m_bin (m_lsh (m_lbin (m_xgo hi)))))))))))))))))))))))
theorem mobx_359 : xBm bx_359 := fun dl fs i1 i2 fin hi => (m_ret hi)
theorem mobx_360 : xBm bx_360 := fun dl fs i1 i2 fin hi => (m_aload (m_getr (m_getr (m_iload (m_ald (m_istore (m_aload (m_iconst (m_puti (m_aload (m_iload (m_iconst (m_bin (m_aload (m_getr (m_getr (m_iload (m_ald (m_iload (m_callv hi))))))))))))))))))))
theorem mobx_361 : xBm bx_361 := fun dl fs i1 i2 fin hi => (m_aload (m_getr (m_getr (m_aload (m_getr (m_getr (m_iload (m_ald (m_ald (m_iret hi))))))))))
theorem mobx_362 : xBm bx_362 := fun dl fs i1 i2 fin hi => (m_aload (m_iconst (m_putz (m_aload (m_iconst (m_puti (m_aload (m_aload (m_iload (m_callv hi))))))))))
theorem mobx_363 : xBm bx_363 := fun dl fs i1 i2 fin hi => (m_aload (m_iload (m_callv hi)))
theorem mobx_364 : xBm bx_364 := fun dl fs i1 i2 fin hi => (m_callv hi)
theorem mobx_365 : xBm bx_365 := fun dl fs i1 i2 fin hi => (m_istore (m_iconst (m_istore (m_iload (m_iconst (m_if2 (m_xgo hi) (m_aload (m_geti (m_if1 (m_xgo hi) (m_iload (m_if1 (m_xgo hi) (m_aload (m_getr (m_iconst (m_aload (m_geti (m_bin (m_lald (m_l2i (m_iconst (m_bin (m_istore (m_xgo hi)))))))))))))))))))))))
theorem mobx_366 : xBm bx_366 := fun dl fs i1 i2 fin hi => (m_iload (m_iconst (m_if2 (m_xgo hi) (m_aload (m_geti (m_if1 (m_xgo hi) (m_iload (m_if1 (m_xgo hi) (m_aload (m_getr (m_iconst (m_aload (m_geti (m_bin (m_lald (m_l2i (m_iconst (m_bin (m_istore (m_aload (m_getr (m_iconst (m_xgo hi)))))))))))))))))))))))
theorem mobx_367 : xBm bx_367 := fun dl fs i1 i2 fin hi => (m_istore (m_iload (m_aload (m_getr (m_aload (m_iload (m_callv hi)))))))
theorem mobx_368 : xBm bx_368 := fun dl fs i1 i2 fin hi => (m_callv hi)
theorem mobx_369 : xBm bx_369 := fun dl fs i1 i2 fin hi => (m_if2 (m_xgo hi) (m_aload (m_dup (m_geti (m_iconst (m_bin (m_puti (m_xgo hi))))))))
theorem mobx_370 : xBm bx_370 := fun dl fs i1 i2 fin hi => (m_aload (m_getr (m_iconst (m_aload (m_geti (m_bin (m_dup2 (m_lald (m_lconst (m_lbin (m_last (m_aload (m_aload (m_aload (m_iload (m_iload (m_callv hi)))))))))))))))))
theorem mobx_371 : xBm bx_371 := fun dl fs i1 i2 fin hi => (m_callv hi)
theorem mobx_372 : xBm bx_372 := fun dl fs i1 i2 fin hi => (m_aload (m_aload (m_iload (m_iload (m_callv hi)))))
theorem mobx_373 : xBm bx_373 := fun dl fs i1 i2 fin hi => (m_callv hi)
theorem mobx_374 : xBm bx_374 := fun dl fs i1 i2 fin hi => (m_callv hi)
theorem mobx_375 : xBm bx_375 := fun dl fs i1 i2 fin hi => (m_istore (m_iinc (m_xgo hi)))
theorem mobx_376 : xBm bx_376 := fun dl fs i1 i2 fin hi => (m_iinc (m_xgo hi))
theorem mobx_377 : xBm bx_377 := fun dl fs i1 i2 fin hi => (m_iload (m_if1 m_no (m_aload (m_geti (m_if1 (m_xgo hi) (m_aload (m_aload (m_iload (m_callv hi)))))))))
theorem mobx_378 : xBm bx_378 := fun dl fs i1 i2 fin hi => (m_callv hi)
theorem mobx_379 : xBm bx_379 := fun dl fs i1 i2 fin hi => (m_if1 (m_xgo hi) m_no)
theorem mobx_380 : xBm bx_380 := fun dl fs i1 i2 fin hi => (m_ret hi)
theorem mobx_381 : xBm bx_381 := fun dl fs i1 i2 fin hi => (m_aload (m_iconst (m_iconst (m_callv hi))))
theorem mobx_382 : xBm bx_382 := fun dl fs i1 i2 fin hi => (m_iret hi)
theorem mobx_383 : xBm bx_383 := fun dl fs i1 i2 fin hi => (m_iconst (m_istore (m_iload (m_aload (m_geti (m_if2 (m_xgo hi) (m_aload (m_getr (m_iload (m_ald (m_iload (m_if2 (m_xgo hi) (m_aload (m_getr (m_iload (m_ald (m_iret hi)))))))))))))))))
theorem mobx_384 : xBm bx_384 := fun dl fs i1 i2 fin hi => (m_iload (m_aload (m_geti (m_if2 (m_xgo hi) (m_aload (m_getr (m_iload (m_ald (m_iload (m_if2 (m_xgo hi) (m_aload (m_getr (m_iload (m_ald (m_iret hi)))))))))))))))
theorem mobx_385 : xBm bx_385 := fun dl fs i1 i2 fin hi => (m_iinc (m_xgo hi))
theorem mobx_386 : xBm bx_386 := fun dl fs i1 i2 fin hi => (m_aload (m_iload (m_if1 (m_xgo hi) (m_iconst (m_xgo hi)))))
theorem mobx_387 : xBm bx_387 := fun dl fs i1 i2 fin hi => (m_iconst (m_iconst (m_callv hi)))
theorem mobx_388 : xBm bx_388 := fun dl fs i1 i2 fin hi => (m_iconst (m_callv hi))
theorem mobx_389 : xBm bx_389 := fun dl fs i1 i2 fin hi => (m_istore (m_aload (m_geti (m_iconst (m_if2 (m_xgo hi) (m_aload (m_getr (m_aload (m_geti (m_iload (m_ast (m_aload (m_getr (m_aload (m_geti (m_iload (m_ast (m_aload (m_dup (m_geti (m_iconst (m_bin (m_xgo hi)))))))))))))))))))))))
theorem mobx_390 : xBm bx_390 := fun dl fs i1 i2 fin hi => (m_aload (m_dup (m_geti (m_iconst (m_bin (m_puti (m_aload (m_iconst (m_iload (m_iload (m_callv hi)))))))))))
theorem mobx_391 : xBm bx_391 := fun dl fs i1 i2 fin hi => (m_ret hi)
theorem mobx_392 : xBm bx_392 := fun dl fs i1 i2 fin hi => (m_aload (m_dup (m_geti (m_iload (m_bin (m_puti (m_iload (m_istore (m_iconst (m_istore (m_xgo hi)))))))))))
theorem mobx_393 : xBm bx_393 := fun dl fs i1 i2 fin hi => (m_iload (m_iload (m_if2 (m_xgo hi) (m_aload (m_iload (m_iload (m_aload (m_iload (m_iload (m_iload (m_iconst (m_bin (m_iload (m_bin (m_bin (m_callv hi))))))))))))))))
theorem mobx_394 : xBm bx_394 := fun dl fs i1 i2 fin hi => (m_callv hi)
theorem mobx_395 : xBm bx_395 := fun dl fs i1 i2 fin hi => (m_aload (m_getr (m_getr (m_iload (m_ald (m_istore (m_iinc (m_xgo hi))))))))
theorem mobx_396 : xBm bx_396 := fun dl fs i1 i2 fin hi => (m_ret hi)
theorem mobx_397 : xBm bx_397 := fun dl fs i1 i2 fin hi => (m_aload (m_dup (m_geti (m_iload (m_bin (m_puti (m_iload (m_istore (m_iload (m_istore (m_iconst (m_istore (m_xgo hi)))))))))))))
theorem mobx_398 : xBm bx_398 := fun dl fs i1 i2 fin hi => (m_iload (m_iload (m_if2 (m_xgo hi) (m_aload (m_iload (m_iload (m_aload (m_iload (m_iconst (m_callv hi))))))))))
theorem mobx_399 : xBm bx_399 := fun dl fs i1 i2 fin hi => (m_callv hi)
theorem mobx_400 : xBm bx_400 := fun dl fs i1 i2 fin hi => (m_aload (m_iload (m_iconst (m_callv hi))))
theorem mobx_401 : xBm bx_401 := fun dl fs i1 i2 fin hi => (m_istore (m_aload (m_getr (m_getr (m_iload (m_ald (m_istore (m_iinc (m_xgo hi)))))))))
theorem mobx_402 : xBm bx_402 := fun dl fs i1 i2 fin hi => (m_ret hi)
theorem mobx_403 : xBm bx_403 := fun dl fs i1 i2 fin hi => (m_aload (m_geti (m_iconst (m_if2 (m_xgo hi) (m_aload (m_getr (m_aload (m_geti (m_iload (m_bin (m_iload (m_i2l (m_iconst (m_lsh (m_iload (m_i2l (m_lbin (m_last (m_ret hi)))))))))))))))))))
theorem mobx_404 : xBm bx_404 := fun dl fs i1 i2 fin hi => (m_iconst (m_istore (m_iload (m_istore (m_iload (m_if1 (m_xgo hi) m_no))))))
theorem mobx_405 : xBm bx_405 := fun dl fs i1 i2 fin hi => (m_aload (m_dup (m_geti (m_iload (m_bin (m_puti (m_iconst (m_istore (m_iload (m_istore (m_iload (m_if1 (m_xgo hi) m_no))))))))))))
theorem mobx_406 : xBm bx_406 := fun dl fs i1 i2 fin hi => (m_ret hi)
theorem mobx_407 : xBm bx_407 := fun dl fs i1 i2 fin hi => (m_aload (m_getr (m_getr (m_iload (m_ald (m_istore (m_aload (m_aload (m_getr (m_getr (m_iload (m_ald (m_iconst (m_callv hi))))))))))))))
theorem mobx_408 : xBm bx_408 := fun dl fs i1 i2 fin hi => (m_istore (m_iload (m_istore (m_aload (m_getr (m_aload (m_getr (m_getr (m_iload (m_ald (m_callv hi)))))))))))
theorem mobx_409 : xBm bx_409 := fun dl fs i1 i2 fin hi => (m_istore (m_iconst (m_istore (m_iload (m_iload (m_if2 (m_xgo hi) (m_aload (m_iload (m_iconst (m_callv hi))))))))))
theorem mobx_410 : xBm bx_410 := fun dl fs i1 i2 fin hi => (m_iload (m_iload (m_if2 (m_xgo hi) (m_aload (m_iload (m_iconst (m_callv hi)))))))
theorem mobx_411 : xBm bx_411 := fun dl fs i1 i2 fin hi => (m_istore (m_iinc (m_xgo hi)))
theorem mobx_412 : xBm bx_412 := fun dl fs i1 i2 fin hi => (m_aload (m_getr (m_getr (m_iload (m_ald (m_iconst (m_if2 m_no (m_aload (m_aload (m_getr (m_getr (m_iload (m_ald (m_iload (m_callv hi)))))))))))))))
theorem mobx_413 : xBm bx_413 := fun dl fs i1 i2 fin hi => (m_xgo hi)
theorem mobx_414 : xBm bx_414 := fun dl fs i1 i2 fin hi => (m_aload (m_aload (m_getr (m_getr (m_iload (m_ald (m_callv hi)))))))
theorem mobx_415 : xBm bx_415 := fun dl fs i1 i2 fin hi => (m_aload (m_aload (m_getr (m_getr (m_iload (m_ald (m_iload (m_iload (m_callv hi)))))))))
theorem mobx_416 : xBm bx_416 := fun dl fs i1 i2 fin hi => (m_ret hi)
theorem mobx_417 : xBm bx_417 := fun dl fs i1 i2 fin hi => (m_iconst (m_istore (m_iload (m_iconst (m_if2 (m_xgo hi) (m_aload (m_geti (m_if1 (m_xgo hi) (m_aload (m_geti (m_if1 (m_xgo hi) (m_aload (m_geti (m_iconst (m_if2 m_no (m_aload (m_geti (m_iconst (m_if2 (m_xgo hi) m_no)))))))))))))))))))
theorem mobx_418 : xBm bx_418 := fun dl fs i1 i2 fin hi => (m_iload (m_iconst (m_if2 (m_xgo hi) (m_aload (m_geti (m_if1 (m_xgo hi) (m_aload (m_geti (m_if1 (m_xgo hi) (m_aload (m_geti (m_iconst (m_if2 m_no (m_aload (m_geti (m_iconst (m_if2 (m_xgo hi) m_no)))))))))))))))))
theorem mobx_419 : xBm bx_419 := fun dl fs i1 i2 fin hi => (m_aload (m_dup (m_geti (m_iconst (m_bin (m_puti (m_aload (m_getr (m_aload (m_geti (m_lald (m_l2i (m_istore (m_aload (m_getr (m_aload (m_geti (m_lald (m_iconst (m_lsh (m_l2i (m_istore (m_xgo hi)))))))))))))))))))))))
theorem mobx_420 : xBm bx_420 := fun dl fs i1 i2 fin hi => (m_xgo hi)
theorem mobx_421 : xBm bx_421 := fun dl fs i1 i2 fin hi => (m_aload (m_iload (m_iload (m_callv hi))))
theorem mobx_422 : xBm bx_422 := fun dl fs i1 i2 fin hi => (m_iinc (m_xgo hi))
theorem mobx_423 : xBm bx_423 := fun dl fs i1 i2 fin hi => (m_ret hi)
theorem mobx_424 : xBm bx_424 := fun dl fs i1 i2 fin hi => (m_aload (m_obj (m_aload (m_iconst (m_newa (m_putr (m_aload (m_iconst (m_newa (m_putr (m_aload (m_iconst (m_newa (m_putr (m_aload (m_iconst (m_newa (m_putr (m_aload (m_iconst (m_newa (m_putr (m_xgo hi)))))))))))))))))))))))
theorem mobx_425 : xBm bx_425 := fun dl fs i1 i2 fin hi => (m_aload (m_getr (m_iconst (m_iload (m_aload (m_geti (m_iconst (m_bin (m_mmin (m_mmax (m_lald (m_l2i (m_iconst (m_ishr (m_iret hi)))))))))))))))
theorem mobx_426 : xBm bx_426 := fun dl fs i1 i2 fin hi => (m_aload (m_getr (m_iload (m_ald (m_istore (m_aload (m_getr (m_iload (m_iconst (m_bin (m_ald (m_iload (m_bin (m_iload (m_iload (m_bin (m_if2 (m_xgo hi) (m_iconst (m_zret hi)))))))))))))))))))
theorem mobx_427 : xBm bx_427 := fun dl fs i1 i2 fin hi => (m_iload (m_istore (m_iload (m_iload (m_if2 (m_xgo hi) (m_aload (m_getr (m_iload (m_iload (m_bin (m_iload (m_bin (m_ald (m_aload (m_iload (m_ald (m_if2 (m_xgo hi) m_no)))))))))))))))))
theorem mobx_428 : xBm bx_428 := fun dl fs i1 i2 fin hi => (m_iload (m_iload (m_if2 (m_xgo hi) (m_aload (m_getr (m_iload (m_iload (m_bin (m_iload (m_bin (m_ald (m_aload (m_iload (m_ald (m_if2 (m_xgo hi) m_no)))))))))))))))
theorem mobx_429 : xBm bx_429 := fun dl fs i1 i2 fin hi => (m_iinc (m_xgo hi))
theorem mobx_430 : xBm bx_430 := fun dl fs i1 i2 fin hi => (m_iconst (m_zret hi))
theorem mobx_431 : xBm bx_431 := fun dl fs i1 i2 fin hi => (m_iload (m_calls hi))
theorem mobx_432 : xBm bx_432 := fun dl fs i1 i2 fin hi => (m_if1 (m_xgo hi) (m_iload (m_calls hi)))
theorem mobx_433 : xBm bx_433 := fun dl fs i1 i2 fin hi => (m_if1 (m_xgo hi) (m_iload (m_iconst (m_if2 (m_xgo hi) (m_iload (m_iconst (m_if2 (m_xgo hi) (m_iconst (m_xgo hi)))))))))
theorem mobx_434 : xBm bx_434 := fun dl fs i1 i2 fin hi => (m_iconst (m_xgo hi))
theorem mobx_435 : xBm bx_435 := fun dl fs i1 i2 fin hi => (m_iconst (m_zret hi))
theorem mobx_436 : xBm bx_436 := fun dl fs i1 i2 fin hi => (m_zret hi)
theorem mobx_437 : xBm bx_437 := fun dl fs i1 i2 fin hi => (m_iload (m_iconst (m_if2 (m_xgo hi) (m_iload (m_iconst (m_if2 (m_xgo hi) (m_iconst (m_xgo hi))))))))
theorem mobx_438 : xBm bx_438 := fun dl fs i1 i2 fin hi => (m_iconst (m_zret hi))
theorem mobx_439 : xBm bx_439 := fun dl fs i1 i2 fin hi => (m_zret hi)
theorem mobx_440 : xBm bx_440 := fun dl fs i1 i2 fin hi => (m_iload (m_iconst (m_if2 (m_xgo hi) (m_iload (m_iconst (m_if2 (m_xgo hi) (m_iload (m_iconst (m_if2 (m_xgo hi) (m_iload (m_iconst (m_if2 (m_xgo hi) (m_xgo hi)))))))))))))
theorem mobx_441 : xBm bx_441 := fun dl fs i1 i2 fin hi => (m_iload (m_iconst (m_if2 (m_xgo hi) (m_iload (m_iconst (m_if2 (m_xgo hi) (m_iconst (m_xgo hi))))))))
theorem mobx_442 : xBm bx_442 := fun dl fs i1 i2 fin hi => (m_iconst (m_xgo hi))
theorem mobx_443 : xBm bx_443 := fun dl fs i1 i2 fin hi => (m_iconst (m_zret hi))
theorem mobx_444 : xBm bx_444 := fun dl fs i1 i2 fin hi => (m_zret hi)
theorem mobx_445 : xBm bx_445 := fun dl fs i1 i2 fin hi => (m_iload (m_iconst (m_if2 (m_xgo hi) (m_text (m_iload (m_un (m_callt hi)))))))
theorem mobx_446 : xBm bx_446 := fun dl fs i1 i2 fin hi => (m_if1 (m_xgo hi) (m_iconst (m_xgo hi)))
theorem mobx_447 : xBm bx_447 := fun dl fs i1 i2 fin hi => (m_iconst (m_zret hi))
theorem mobx_448 : xBm bx_448 := fun dl fs i1 i2 fin hi => (m_zret hi)
theorem mobx_449 : xBm bx_449 := fun dl fs i1 i2 fin hi => (m_iload (m_aload (m_geti (m_if2 m_no (m_aload (m_getr (m_iload (m_lald (m_l2i (m_iconst (m_bin (m_xgo hi))))))))))))
theorem mobx_450 : xBm bx_450 := fun dl fs i1 i2 fin hi => (m_iret hi)
theorem mobx_451 : xBm bx_451 := fun dl fs i1 i2 fin hi => (m_iconst (m_istore (m_iload (m_istore (m_iload (m_iload (m_if2 (m_xgo hi) (m_iload (m_iconst (m_bin (m_aload (m_iload (m_ald (m_bin (m_istore (m_iinc (m_xgo hi)))))))))))))))))
theorem mobx_452 : xBm bx_452 := fun dl fs i1 i2 fin hi => (m_iload (m_iload (m_if2 (m_xgo hi) (m_iload (m_iconst (m_bin (m_aload (m_iload (m_ald (m_bin (m_istore (m_iinc (m_xgo hi)))))))))))))
theorem mobx_453 : xBm bx_453 := fun dl fs i1 i2 fin hi => (m_iload (m_iconst (m_bin (m_istore (m_aload (m_getr (m_iload (m_ald (m_istore (m_xgo hi))))))))))
theorem mobx_454 : xBm bx_454 := fun dl fs i1 i2 fin hi => (m_iload (m_if1 (m_xgo hi) (m_aload (m_iload (m_iconst (m_bin (m_aload (m_iload (m_iload (m_callv hi))))))))))
theorem mobx_455 : xBm bx_455 := fun dl fs i1 i2 fin hi => (m_if1 (m_xgo hi) (m_iload (m_iconst (m_bin (m_iret hi)))))
theorem mobx_456 : xBm bx_456 := fun dl fs i1 i2 fin hi => (m_aload (m_getr (m_iload (m_iconst (m_bin (m_ald (m_istore (m_xgo hi))))))))
theorem mobx_457 : xBm bx_457 := fun dl fs i1 i2 fin hi => (m_aload (m_geti (m_iconst (m_if2 m_no (m_aload (m_getr (m_aload (m_geti (m_ald (m_iload (m_bin (m_iload (m_bin (m_iconst (m_if2 (m_xgo hi) m_no)))))))))))))))
theorem mobx_458 : xBm bx_458 := fun dl fs i1 i2 fin hi => (m_aload (m_iload (m_aload (m_getr (m_aload (m_getr (m_aload (m_geti (m_ald (m_iload (m_iload (m_bin (m_copy (m_aload (m_getr (m_aload (m_geti (m_iconst (m_bin (m_aload (m_getr (m_aload (m_xgo hi)))))))))))))))))))))))
theorem mobx_459 : xBm bx_459 := fun dl fs i1 i2 fin hi => (m_aload (m_geti (m_iconst (m_if2 (m_xgo hi) (m_aload (m_getr (m_aload (m_geti (m_iload (m_i2l (m_iconst (m_lsh (m_iload (m_iconst (m_ishl (m_i2l (m_lbin (m_iload (m_i2l (m_lbin (m_last (m_aload (m_xgo hi)))))))))))))))))))))))
theorem mobx_460 : xBm bx_460 := fun dl fs i1 i2 fin hi => (m_aload (m_iconst (m_puti (m_aload (m_iconst (m_puti (m_aload (m_iconst (m_putz (m_iconst (m_istore (m_xgo hi))))))))))))
theorem mobx_461 : xBm bx_461 := fun dl fs i1 i2 fin hi => (m_iload (m_iload (m_if2 (m_xgo hi) (m_aload (m_geti (m_if1 (m_xgo hi) (m_aload (m_aload (m_iload (m_iload (m_callv hi)))))))))))
theorem mobx_462 : xBm bx_462 := fun dl fs i1 i2 fin hi => (m_istore (m_xgo hi))
theorem mobx_463 : xBm bx_463 := fun dl fs i1 i2 fin hi => (m_aload (m_iconst (m_iload (m_iconst (m_callv hi)))))
theorem mobx_464 : xBm bx_464 := fun dl fs i1 i2 fin hi => (m_ret hi)
theorem mobx_465 : xBm bx_465 := fun dl fs i1 i2 fin hi => (m_iconst (m_istore (m_iconst (m_istore (m_iload (m_iload (m_if2 (m_xgo hi) (m_aload (m_iload (m_ald (m_iconst (m_if2 (m_xgo hi) (m_aload (m_aload (m_iload (m_iload (m_callv hi)))))))))))))))))
theorem mobx_466 : xBm bx_466 := fun dl fs i1 i2 fin hi => (m_iload (m_iload (m_if2 (m_xgo hi) (m_aload (m_iload (m_ald (m_iconst (m_if2 (m_xgo hi) (m_aload (m_aload (m_iload (m_iload (m_callv hi)))))))))))))
theorem mobx_467 : xBm bx_467 := fun dl fs i1 i2 fin hi => (m_pop (m_iload (m_iconst (m_bin (m_istore (m_iinc (m_xgo hi)))))))
theorem mobx_468 : xBm bx_468 := fun dl fs i1 i2 fin hi => (m_iinc (m_xgo hi))
theorem mobx_469 : xBm bx_469 := fun dl fs i1 i2 fin hi => (m_ret hi)
theorem mobx_470 : xBm bx_470 := fun dl fs i1 i2 fin hi => (m_iload (m_istore (m_iconst (m_istore (m_iload (m_iload (m_if2 (m_xgo hi) (m_iload (m_iload (m_iconst (m_bin (m_if2 (m_xgo hi) (m_aload (m_iload (m_ald (m_iconst (m_bin (m_calls hi))))))))))))))))))
theorem mobx_471 : xBm bx_471 := fun dl fs i1 i2 fin hi => (m_iload (m_iload (m_if2 (m_xgo hi) (m_iload (m_iload (m_iconst (m_bin (m_if2 (m_xgo hi) (m_aload (m_iload (m_ald (m_iconst (m_bin (m_calls hi))))))))))))))
theorem mobx_472 : xBm bx_472 := fun dl fs i1 i2 fin hi => (m_if1 (m_xgo hi) (m_iload (m_iconst (m_bin (m_aload (m_iload (m_ald (m_bin (m_iconst (m_bin (m_istore (m_iinc (m_xgo hi)))))))))))))
theorem mobx_473 : xBm bx_473 := fun dl fs i1 i2 fin hi => (m_iload (m_iload (m_if2 (m_xgo hi) (m_aload (m_iload (m_ald (m_iconst (m_bin (m_calls hi)))))))))
theorem mobx_474 : xBm bx_474 := fun dl fs i1 i2 fin hi => (m_if1 (m_xgo hi) m_no)
theorem mobx_475 : xBm bx_475 := fun dl fs i1 i2 fin hi => (m_aload (m_iconst (m_iload (m_iload (m_callv hi)))))
theorem mobx_476 : xBm bx_476 := fun dl fs i1 i2 fin hi => (m_iload (m_iret hi))
theorem mobx_477 : xBm bx_477 := fun dl fs i1 i2 fin hi => (m_iload (m_iconst (m_bin (m_istore (m_iload (m_iload (m_if2 (m_xgo hi) (m_aload (m_iload (m_ald (m_iconst (m_bin (m_calls hi)))))))))))))
theorem mobx_478 : xBm bx_478 := fun dl fs i1 i2 fin hi => (m_iload (m_iload (m_if2 (m_xgo hi) (m_aload (m_iload (m_ald (m_iconst (m_bin (m_calls hi)))))))))
theorem mobx_479 : xBm bx_479 := fun dl fs i1 i2 fin hi => (m_if1 (m_xgo hi) (m_iinc (m_xgo hi)))
theorem mobx_480 : xBm bx_480 := fun dl fs i1 i2 fin hi => (m_aload (m_aload (m_iload (m_iload (m_callv hi)))))
theorem mobx_481 : xBm bx_481 := fun dl fs i1 i2 fin hi => (m_istore (m_aload (m_iload (m_ald (m_iconst (m_bin (m_istore (m_iload (m_iconst (m_if2 (m_xgo hi) (m_iload (m_iconst (m_if2 (m_xgo hi) (m_aload (m_iconst (m_iload (m_iload (m_callv hi))))))))))))))))))
theorem mobx_482 : xBm bx_482 := fun dl fs i1 i2 fin hi => (m_xgo hi)
theorem mobx_483 : xBm bx_483 := fun dl fs i1 i2 fin hi => (m_aload (m_iload (m_iconst (m_if2 (m_xgo hi) (m_iload (m_xgo hi))))))
theorem mobx_484 : xBm bx_484 := fun dl fs i1 i2 fin hi => (m_iconst (m_iload (m_iload (m_callv hi))))
theorem mobx_485 : xBm bx_485 := fun dl fs i1 i2 fin hi => (m_iload (m_iload (m_callv hi)))
theorem mobx_486 : xBm bx_486 := fun dl fs i1 i2 fin hi => (m_iload (m_iret hi))
theorem mobx_487 : xBm bx_487 := fun dl fs i1 i2 fin hi => (m_aload (m_iload (m_ald (m_iconst (m_bin (m_istore (m_iload (m_iconst (m_if2 (m_xgo hi) (m_iload (m_iconst (m_if2 (m_xgo hi) (m_xgo hi)))))))))))))
theorem mobx_488 : xBm bx_488 := fun dl fs i1 i2 fin hi => (m_iload (m_iconst (m_bin (m_iret hi))))
theorem mobx_489 : xBm bx_489 := fun dl fs i1 i2 fin hi => (m_iload (m_calls hi))
theorem mobx_490 : xBm bx_490 := fun dl fs i1 i2 fin hi => (m_if1 (m_xgo hi) (m_aload (m_aload (m_iload (m_iload (m_callv hi))))))
theorem mobx_491 : xBm bx_491 := fun dl fs i1 i2 fin hi => (m_iret hi)
theorem mobx_492 : xBm bx_492 := fun dl fs i1 i2 fin hi => (m_aload (m_geti (m_if1 (m_xgo hi) (m_aload (m_iload (m_if1 m_no (m_iload (m_iconst (m_bin (m_xgo hi))))))))))
theorem mobx_493 : xBm bx_493 := fun dl fs i1 i2 fin hi => (m_ald (m_iconst (m_if2 (m_xgo hi) (m_aload (m_iconst (m_iload (m_iconst (m_callv hi))))))))
theorem mobx_494 : xBm bx_494 := fun dl fs i1 i2 fin hi => (m_iload (m_calls hi))
theorem mobx_495 : xBm bx_495 := fun dl fs i1 i2 fin hi => (m_if1 (m_xgo hi) (m_aload (m_aload (m_iload (m_iload (m_callv hi))))))
theorem mobx_496 : xBm bx_496 := fun dl fs i1 i2 fin hi => (m_iret hi)
theorem mobx_497 : xBm bx_497 := fun dl fs i1 i2 fin hi => (m_iload (m_calls hi))
theorem mobx_498 : xBm bx_498 := fun dl fs i1 i2 fin hi => (m_if1 (m_xgo hi) (m_iload (m_iconst (m_if2 (m_xgo hi) (m_aload (m_aload (m_iload (m_iload (m_callv hi)))))))))
theorem mobx_499 : xBm bx_499 := fun dl fs i1 i2 fin hi => (m_aload (m_aload (m_iload (m_iload (m_callv hi)))))
theorem mobx_500 : xBm bx_500 := fun dl fs i1 i2 fin hi => (m_iret hi)
theorem mobx_501 : xBm bx_501 := fun dl fs i1 i2 fin hi => (m_text (m_iload (m_un (m_callt hi))))
theorem mobx_502 : xBm bx_502 := fun dl fs i1 i2 fin hi => (m_istore (m_iload (m_if1 (m_xgo hi) m_no)))
theorem mobx_503 : xBm bx_503 := fun dl fs i1 i2 fin hi => (m_aload (m_iconst (m_iload (m_bin (m_iload (m_iconst (m_callv hi)))))))
theorem mobx_504 : xBm bx_504 := fun dl fs i1 i2 fin hi => (m_iload (m_iconst (m_bin (m_iret hi))))
theorem mobx_505 : xBm bx_505 := fun dl fs i1 i2 fin hi => (m_iload (m_istore (m_iconst (m_istore (m_iload (m_iload (m_if2 (m_xgo hi) (m_aload (m_iload (m_ald (m_iconst (m_bin (m_calls hi)))))))))))))
theorem mobx_506 : xBm bx_506 := fun dl fs i1 i2 fin hi => (m_iload (m_iload (m_if2 (m_xgo hi) (m_aload (m_iload (m_ald (m_iconst (m_bin (m_calls hi)))))))))
theorem mobx_507 : xBm bx_507 := fun dl fs i1 i2 fin hi => (m_if1 (m_xgo hi) (m_iload (m_if1 (m_xgo hi) (m_aload (m_iload (m_ald (m_iconst (m_if2 (m_xgo hi) (m_iconst (m_xgo hi))))))))))
theorem mobx_508 : xBm bx_508 := fun dl fs i1 i2 fin hi => (m_iconst (m_istore (m_iinc (m_xgo hi))))
theorem mobx_509 : xBm bx_509 := fun dl fs i1 i2 fin hi => (m_istore (m_iinc (m_xgo hi)))
theorem mobx_510 : xBm bx_510 := fun dl fs i1 i2 fin hi => (m_iload (m_if1 (m_xgo hi) (m_iload (m_iload (m_bin (m_iconst (m_if2 (m_xgo hi) m_no)))))))
theorem mobx_511 : xBm bx_511 := fun dl fs i1 i2 fin hi => (m_aload (m_geti (m_if1 (m_xgo hi) (m_aload (m_iload (m_if1 m_no (m_iload (m_iconst (m_bin (m_xgo hi))))))))))
theorem mobx_512 : xBm bx_512 := fun dl fs i1 i2 fin hi => (m_ald (m_iconst (m_if2 (m_xgo hi) m_no)))
theorem mobx_513 : xBm bx_513 := fun dl fs i1 i2 fin hi => (m_aload (m_aload (m_iload (m_iload (m_callv hi)))))
theorem mobx_514 : xBm bx_514 := fun dl fs i1 i2 fin hi => (m_istore (m_aload (m_iload (m_iconst (m_if2 (m_xgo hi) (m_iload (m_xgo hi)))))))
theorem mobx_515 : xBm bx_515 := fun dl fs i1 i2 fin hi => (m_iconst (m_iload (m_iload (m_callv hi))))
theorem mobx_516 : xBm bx_516 := fun dl fs i1 i2 fin hi => (m_iload (m_iload (m_callv hi)))
theorem mobx_517 : xBm bx_517 := fun dl fs i1 i2 fin hi => (m_iload (m_iret hi))
theorem mobx_518 : xBm bx_518 := fun dl fs i1 i2 fin hi => (m_aload (m_getr (m_iconst (m_iload (m_aload (m_geti (m_iconst (m_bin (m_mmin (m_mmax (m_lald (m_iconst (m_lsh (m_l2i (m_iret hi)))))))))))))))
theorem mobx_519 : xBm bx_519 := fun dl fs i1 i2 fin hi => (m_aload (m_obj (m_aload (m_iconst (m_newa (m_putr (m_aload (m_iconst (m_newa (m_putr (m_aload (m_iconst (m_newa (m_putr (m_aload (m_iconst (m_newa (m_putr (m_aload (m_iconst (m_newa (m_putr (m_xgo hi)))))))))))))))))))))))
theorem mobx_520 : xBm bx_520 := fun dl fs i1 i2 fin hi => (m_putr (m_aload (m_new (m_dup (m_aload (m_aload (m_getr (m_calli hi))))))))
theorem mobx_521 : xBm bx_521 := fun dl fs i1 i2 fin hi => (m_putr (m_aload (m_new (m_dup (m_aload (m_aload (m_aload (m_getr (m_aload (m_getr (m_calli hi)))))))))))
theorem mobx_522 : xBm bx_522 := fun dl fs i1 i2 fin hi => (m_putr (m_ret hi))
theorem mobx_523 : xBm bx_523 := fun dl fs i1 i2 fin hi => (m_aload (m_obj (m_aload (m_iconst (m_newa (m_putr (m_aload (m_iconst (m_newa (m_putr (m_aload (m_iconst (m_newa (m_putr (m_aload (m_iconst (m_newa (m_putr (m_aload (m_iconst (m_newa (m_putr (m_xgo hi)))))))))))))))))))))))
theorem mobx_524 : xBm bx_524 := fun dl fs i1 i2 fin hi => (m_aload (m_obj (m_aload (m_aload (m_putr (m_aload (m_aload (m_putr (m_ret hi)))))))))
theorem mobx_525 : xBm bx_525 := fun dl fs i1 i2 fin hi => (m_aload (m_getr (m_iconst (m_aload (m_getr (m_getr (m_iload (m_ald (m_iload (m_iload (m_callv hi)))))))))))
theorem mobx_526 : xBm bx_526 := fun dl fs i1 i2 fin hi => (m_istore (m_aload (m_getr (m_getr (m_iload (m_iload (m_ast (m_iload (m_iret hi)))))))))
theorem mobx_527 : xBm bx_527 := fun dl fs i1 i2 fin hi => (m_aload (m_callv hi))
theorem mobx_528 : xBm bx_528 := fun dl fs i1 i2 fin hi => (m_istore (m_aload (m_callv hi)))
theorem mobx_529 : xBm bx_529 := fun dl fs i1 i2 fin hi => (m_istore (m_aload (m_iconst (m_callv hi))))
theorem mobx_530 : xBm bx_530 := fun dl fs i1 i2 fin hi => (m_table (And.intro (m_xgo hi) (And.intro (m_xgo hi) (And.intro m_no (And.intro m_no (And.intro (m_xgo hi) (And.intro m_no (And.intro (m_xgo hi) True.intro))))))) m_no)
theorem mobx_531 : xBm bx_531 := fun dl fs i1 i2 fin hi => (m_aload (m_dup (m_geti (m_iconst (m_bin (m_puti (m_aload (m_getr (m_iconst (m_iload (m_iload (m_iconst (m_callv hi)))))))))))))
theorem mobx_532 : xBm bx_532 := fun dl fs i1 i2 fin hi => (m_iret hi)
theorem mobx_533 : xBm bx_533 := fun dl fs i1 i2 fin hi => (m_aload (m_dup (m_geti (m_iconst (m_bin (m_puti (m_aload (m_getr (m_iconst (m_iload (m_iload (m_iconst (m_callv hi)))))))))))))
theorem mobx_534 : xBm bx_534 := fun dl fs i1 i2 fin hi => (m_iret hi)
theorem mobx_535 : xBm bx_535 := fun dl fs i1 i2 fin hi => (m_aload (m_callv hi))
theorem mobx_536 : xBm bx_536 := fun dl fs i1 i2 fin hi => (m_aload (m_callv hi))
theorem mobx_537 : xBm bx_537 := fun dl fs i1 i2 fin hi => (m_if1 (m_xgo hi) m_no)
theorem mobx_538 : xBm bx_538 := fun dl fs i1 i2 fin hi => (m_aload (m_iload (m_callv hi)))
theorem mobx_539 : xBm bx_539 := fun dl fs i1 i2 fin hi => (m_istore (m_aload (m_iconst (m_callv hi))))
theorem mobx_540 : xBm bx_540 := fun dl fs i1 i2 fin hi => (m_iload (m_iret hi))
theorem mobx_541 : xBm bx_541 := fun dl fs i1 i2 fin hi => (m_aload (m_iload (m_callv hi)))
theorem mobx_542 : xBm bx_542 := fun dl fs i1 i2 fin hi => (m_iret hi)
theorem mobx_543 : xBm bx_543 := fun dl fs i1 i2 fin hi => (m_iconst (m_istore (m_iconst (m_istore (m_iconst (m_istore (m_iload (m_aload (m_getr (m_geti (m_if2 (m_xgo hi) (m_aload (m_iconst (m_callv hi))))))))))))))
theorem mobx_544 : xBm bx_544 := fun dl fs i1 i2 fin hi => (m_iconst (m_if2 (m_xgo hi) (m_aload (m_iconst (m_callv hi)))))
theorem mobx_545 : xBm bx_545 := fun dl fs i1 i2 fin hi => (m_iconst (m_if2 (m_xgo hi) m_no))
theorem mobx_546 : xBm bx_546 := fun dl fs i1 i2 fin hi => (m_aload (m_callv hi))
theorem mobx_547 : xBm bx_547 := fun dl fs i1 i2 fin hi => (m_istore (m_iload (m_if1 m_no (m_iload (m_iret hi)))))
theorem mobx_548 : xBm bx_548 := fun dl fs i1 i2 fin hi => (m_aload (m_callv hi))
theorem mobx_549 : xBm bx_549 := fun dl fs i1 i2 fin hi => (m_istore (m_aload (m_callv hi)))
theorem mobx_550 : xBm bx_550 := fun dl fs i1 i2 fin hi => (m_istore (m_aload (m_iconst (m_callv hi))))
theorem mobx_551 : xBm bx_551 := fun dl fs i1 i2 fin hi => (m_table (And.intro (m_xgo hi) (And.intro m_no (And.intro m_no (And.intro m_no (And.intro (m_xgo hi) (And.intro m_no (And.intro (m_xgo hi) True.intro))))))) m_no)
theorem mobx_552 : xBm bx_552 := fun dl fs i1 i2 fin hi => (m_aload (m_dup (m_geti (m_iconst (m_bin (m_puti (m_aload (m_getr (m_iconst (m_iload (m_iload (m_iconst (m_callv hi)))))))))))))
theorem mobx_553 : xBm bx_553 := fun dl fs i1 i2 fin hi => (m_iret hi)
theorem mobx_554 : xBm bx_554 := fun dl fs i1 i2 fin hi => (m_aload (m_callv hi))
theorem mobx_555 : xBm bx_555 := fun dl fs i1 i2 fin hi => (m_aload (m_callv hi))
theorem mobx_556 : xBm bx_556 := fun dl fs i1 i2 fin hi => (m_istore (m_aload (m_iconst (m_callv hi))))
theorem mobx_557 : xBm bx_557 := fun dl fs i1 i2 fin hi => (m_aload (m_getr (m_iconst (m_iload (m_iconst (m_iload (m_callv hi)))))))
theorem mobx_558 : xBm bx_558 := fun dl fs i1 i2 fin hi => (m_istore (m_aload (m_getr (m_getr (m_iload (m_iconst (m_ast (m_iload (m_iret hi)))))))))
theorem mobx_559 : xBm bx_559 := fun dl fs i1 i2 fin hi => (m_aload (m_iload (m_callv hi)))
theorem mobx_560 : xBm bx_560 := fun dl fs i1 i2 fin hi => (m_iret hi)
theorem mobx_561 : xBm bx_561 := fun dl fs i1 i2 fin hi => (m_aload (m_iconst (m_callv hi)))
theorem mobx_562 : xBm bx_562 := fun dl fs i1 i2 fin hi => (m_istore (m_iload (m_iconst (m_if2 (m_xgo hi) (m_iload (m_iconst (m_if2 (m_xgo hi) (m_iload (m_iconst (m_if2 (m_xgo hi) (m_iload (m_iconst (m_if2 (m_xgo hi) (m_iload (m_iconst (m_if2 (m_xgo hi) (m_xgo hi)))))))))))))))))
theorem mobx_563 : xBm bx_563 := fun dl fs i1 i2 fin hi => (m_iconst (m_xgo hi))
theorem mobx_564 : xBm bx_564 := fun dl fs i1 i2 fin hi => (m_iconst (m_zret hi))
theorem mobx_565 : xBm bx_565 := fun dl fs i1 i2 fin hi => (m_zret hi)
theorem mobx_566 : xBm bx_566 := fun dl fs i1 i2 fin hi => (m_aload (m_iconst (m_callv hi)))
theorem mobx_567 : xBm bx_567 := fun dl fs i1 i2 fin hi => (m_istore (m_iload (m_iconst (m_if2 (m_xgo hi) (m_iload (m_iconst (m_if2 (m_xgo hi) (m_iload (m_iconst (m_if2 (m_xgo hi) (m_xgo hi)))))))))))
theorem mobx_568 : xBm bx_568 := fun dl fs i1 i2 fin hi => (m_iconst (m_xgo hi))
theorem mobx_569 : xBm bx_569 := fun dl fs i1 i2 fin hi => (m_iconst (m_zret hi))
theorem mobx_570 : xBm bx_570 := fun dl fs i1 i2 fin hi => (m_zret hi)
theorem mobx_571 : xBm bx_571 := fun dl fs i1 i2 fin hi => (m_aload (m_iconst (m_callv hi)))
theorem mobx_572 : xBm bx_572 := fun dl fs i1 i2 fin hi => (m_istore (m_iload (m_iconst (m_if2 (m_xgo hi) (m_iload (m_iconst (m_if2 (m_xgo hi) (m_iload (m_iconst (m_if2 (m_xgo hi) (m_iload (m_iconst (m_if2 (m_xgo hi) (m_iload (m_iconst (m_if2 (m_xgo hi) (m_iload (m_iconst (m_if2 (m_xgo hi) (m_xgo hi))))))))))))))))))))
theorem mobx_573 : xBm bx_573 := fun dl fs i1 i2 fin hi => (m_iconst (m_xgo hi))
theorem mobx_574 : xBm bx_574 := fun dl fs i1 i2 fin hi => (m_iconst (m_zret hi))
theorem mobx_575 : xBm bx_575 := fun dl fs i1 i2 fin hi => (m_zret hi)
theorem mobx_576 : xBm bx_576 := fun dl fs i1 i2 fin hi => (m_aload (m_iconst (m_callv hi)))
theorem mobx_577 : xBm bx_577 := fun dl fs i1 i2 fin hi => (m_istore (m_iload (m_iconst (m_if2 m_no (m_iload (m_iconst (m_if2 m_no (m_iload (m_iconst (m_if2 m_no (m_iload (m_if1 m_no (m_iload (m_iconst (m_if2 (m_xgo hi) m_no)))))))))))))))
theorem mobx_578 : xBm bx_578 := fun dl fs i1 i2 fin hi => (m_iconst (m_zret hi))
theorem mobx_579 : xBm bx_579 := fun dl fs i1 i2 fin hi => (m_aload (m_iconst (m_callv hi)))
theorem mobx_580 : xBm bx_580 := fun dl fs i1 i2 fin hi => (m_istore (m_iload (m_iconst (m_if2 m_no (m_iload (m_iconst (m_if2 m_no (m_iload (m_iconst (m_if2 m_no (m_iload (m_iconst (m_if2 (m_xgo hi) m_no)))))))))))))
theorem mobx_581 : xBm bx_581 := fun dl fs i1 i2 fin hi => (m_iconst (m_zret hi))
theorem mobx_582 : xBm bx_582 := fun dl fs i1 i2 fin hi => (m_aload (m_getr (m_iconst (m_aload (m_callv hi)))))
theorem mobx_583 : xBm bx_583 := fun dl fs i1 i2 fin hi => (m_aload (m_callv hi))
theorem mobx_584 : xBm bx_584 := fun dl fs i1 i2 fin hi => (m_iconst (m_callv hi))
theorem mobx_585 : xBm bx_585 := fun dl fs i1 i2 fin hi => (m_istore (m_aload (m_iconst (m_callv hi))))
theorem mobx_586 : xBm bx_586 := fun dl fs i1 i2 fin hi => (m_iload (m_iret hi))
theorem mobx_587 : xBm bx_587 := fun dl fs i1 i2 fin hi => (m_aload (m_geti (m_istore (m_aload (m_getr (m_iconst (m_aload (m_callv hi))))))))
theorem mobx_588 : xBm bx_588 := fun dl fs i1 i2 fin hi => (m_aload (m_callv hi))
theorem mobx_589 : xBm bx_589 := fun dl fs i1 i2 fin hi => (m_iconst (m_callv hi))
theorem mobx_590 : xBm bx_590 := fun dl fs i1 i2 fin hi => (m_istore (m_aload (m_iconst (m_callv hi))))
theorem mobx_591 : xBm bx_591 := fun dl fs i1 i2 fin hi => (m_iconst (m_istore (m_iconst (m_istore (m_iload (m_aload (m_getr (m_geti (m_if2 (m_xgo hi) (m_aload (m_callv hi)))))))))))
theorem mobx_592 : xBm bx_592 := fun dl fs i1 i2 fin hi => (m_if1 (m_xgo hi) m_no)
theorem mobx_593 : xBm bx_593 := fun dl fs i1 i2 fin hi => (m_aload (m_getr (m_getr (m_iload (m_iload (m_ast (m_aload (m_getr (m_getr (m_iload (m_aload (m_geti (m_iload (m_bin (m_ast (m_iload (m_iret hi)))))))))))))))))
theorem mobx_594 : xBm bx_594 := fun dl fs i1 i2 fin hi => (m_aload (m_getr (m_iconst (m_iload (m_iload (m_iload (m_callv hi)))))))
theorem mobx_595 : xBm bx_595 := fun dl fs i1 i2 fin hi => (m_istore (m_aload (m_getr (m_getr (m_iload (m_iload (m_ast (m_iload (m_iret hi)))))))))
theorem mobx_596 : xBm bx_596 := fun dl fs i1 i2 fin hi => (m_aload (m_iconst (m_callv hi)))
theorem mobx_597 : xBm bx_597 := fun dl fs i1 i2 fin hi => (m_aload (m_getr (m_iconst (m_aload (m_callv hi)))))
theorem mobx_598 : xBm bx_598 := fun dl fs i1 i2 fin hi => (m_aload (m_callv hi))
theorem mobx_599 : xBm bx_599 := fun dl fs i1 i2 fin hi => (m_iconst (m_callv hi))
theorem mobx_600 : xBm bx_600 := fun dl fs i1 i2 fin hi => (m_istore (m_aload (m_iconst (m_callv hi))))
theorem mobx_601 : xBm bx_601 := fun dl fs i1 i2 fin hi => (m_iconst (m_istore (m_iconst (m_istore (m_iload (m_aload (m_getr (m_geti (m_if2 (m_xgo hi) (m_aload (m_iconst (m_callv hi))))))))))))
theorem mobx_602 : xBm bx_602 := fun dl fs i1 i2 fin hi => (m_iconst (m_if2 (m_xgo hi) m_no))
theorem mobx_603 : xBm bx_603 := fun dl fs i1 i2 fin hi => (m_aload (m_iconst (m_callv hi)))
theorem mobx_604 : xBm bx_604 := fun dl fs i1 i2 fin hi => (m_aload (m_callv hi))
theorem mobx_605 : xBm bx_605 := fun dl fs i1 i2 fin hi => (m_istore (m_aload (m_getr (m_getr (m_iload (m_iload (m_ast (m_iconst (m_istore (m_xgo hi))))))))))
theorem mobx_606 : xBm bx_606 := fun dl fs i1 i2 fin hi => (m_iload (m_aload (m_getr (m_geti (m_if2 (m_xgo hi) (m_aload (m_iconst (m_callv hi))))))))
theorem mobx_607 : xBm bx_607 := fun dl fs i1 i2 fin hi => (m_iconst (m_if2 (m_xgo hi) (m_aload (m_dup (m_geti (m_iconst (m_bin (m_puti (m_aload (m_callv hi))))))))))
theorem mobx_608 : xBm bx_608 := fun dl fs i1 i2 fin hi => (m_istore (m_aload (m_getr (m_getr (m_iload (m_iload (m_ast (m_iload (m_istore (m_iinc (m_xgo hi)))))))))))
theorem mobx_609 : xBm bx_609 := fun dl fs i1 i2 fin hi => (m_iload (m_iret hi))
theorem mobx_610 : xBm bx_610 := fun dl fs i1 i2 fin hi => (m_aload (m_iconst (m_callv hi)))
theorem mobx_611 : xBm bx_611 := fun dl fs i1 i2 fin hi => (m_look (And.intro (And.intro rfl m_no) (And.intro (And.intro rfl m_no) (And.intro (And.intro rfl m_no) (And.intro (And.intro rfl m_no) (And.intro (And.intro rfl (m_xgo hi)) True.intro))))) (m_xgo hi))
theorem mobx_612 : xBm bx_612 := fun dl fs i1 i2 fin hi => (m_aload (m_callv hi))
theorem mobx_613 : xBm bx_613 := fun dl fs i1 i2 fin hi => (m_iret hi)
theorem mobx_614 : xBm bx_614 := fun dl fs i1 i2 fin hi => (m_aload (m_iload (m_callv hi)))
theorem mobx_615 : xBm bx_615 := fun dl fs i1 i2 fin hi => (m_iret hi)
theorem mobx_616 : xBm bx_616 := fun dl fs i1 i2 fin hi => (m_aload (m_getr (m_iconst (m_aload (m_callv hi)))))
theorem mobx_617 : xBm bx_617 := fun dl fs i1 i2 fin hi => (m_iconst (m_iconst (m_callv hi)))
theorem mobx_618 : xBm bx_618 := fun dl fs i1 i2 fin hi => (m_istore (m_aload (m_getr (m_getr (m_iload (m_aload (m_iconst (m_callv hi))))))))
theorem mobx_619 : xBm bx_619 := fun dl fs i1 i2 fin hi => (m_ast (m_aload (m_dup (m_geti (m_iconst (m_bin (m_puti (m_aload (m_iconst (m_callv hi))))))))))
theorem mobx_620 : xBm bx_620 := fun dl fs i1 i2 fin hi => (m_iconst (m_if2 m_no (m_aload (m_callv hi))))
theorem mobx_621 : xBm bx_621 := fun dl fs i1 i2 fin hi => (m_iconst (m_if2 (m_xgo hi) m_no))
theorem mobx_622 : xBm bx_622 := fun dl fs i1 i2 fin hi => (m_aload (m_getr (m_getr (m_iload (m_aload (m_callv hi))))))
theorem mobx_623 : xBm bx_623 := fun dl fs i1 i2 fin hi => (m_ast (m_iconst (m_istore (m_iconst (m_istore (m_iload (m_aload (m_getr (m_geti (m_if2 (m_xgo hi) (m_iload (m_if1 (m_xgo hi) (m_aload (m_iconst (m_callv hi)))))))))))))))
theorem mobx_624 : xBm bx_624 := fun dl fs i1 i2 fin hi => (m_iload (m_aload (m_getr (m_geti (m_if2 (m_xgo hi) (m_iload (m_if1 (m_xgo hi) (m_aload (m_iconst (m_callv hi))))))))))
theorem mobx_625 : xBm bx_625 := fun dl fs i1 i2 fin hi => (m_iconst (m_if2 (m_xgo hi) (m_aload (m_dup (m_geti (m_iconst (m_bin (m_puti (m_aload (m_iconst (m_callv hi)))))))))))
theorem mobx_626 : xBm bx_626 := fun dl fs i1 i2 fin hi => (m_aload (m_dup (m_geti (m_iconst (m_bin (m_puti (m_aload (m_iconst (m_callv hi)))))))))
theorem mobx_627 : xBm bx_627 := fun dl fs i1 i2 fin hi => (m_istore (m_iload (m_if1 (m_xgo hi) (m_aload (m_getr (m_getr (m_iload (m_iload (m_ast (m_xgo hi))))))))))
theorem mobx_628 : xBm bx_628 := fun dl fs i1 i2 fin hi => (m_aload (m_getr (m_getr (m_iload (m_iload (m_ast (m_iload (m_istore (m_iinc (m_xgo hi))))))))))
theorem mobx_629 : xBm bx_629 := fun dl fs i1 i2 fin hi => (m_iload (m_istore (m_iinc (m_xgo hi))))
theorem mobx_630 : xBm bx_630 := fun dl fs i1 i2 fin hi => (m_iload (m_iret hi))
theorem mobx_631 : xBm bx_631 := fun dl fs i1 i2 fin hi => (m_aload (m_getr (m_iconst (m_aload (m_callv hi)))))
theorem mobx_632 : xBm bx_632 := fun dl fs i1 i2 fin hi => (m_iconst (m_iconst (m_callv hi)))
theorem mobx_633 : xBm bx_633 := fun dl fs i1 i2 fin hi => (m_istore (m_aload (m_callv hi)))
theorem mobx_634 : xBm bx_634 := fun dl fs i1 i2 fin hi => (m_iconst (m_istore (m_iconst (m_istore (m_iload (m_aload (m_getr (m_geti (m_if2 (m_xgo hi) (m_iload (m_if1 (m_xgo hi) (m_aload (m_iconst (m_callv hi))))))))))))))
theorem mobx_635 : xBm bx_635 := fun dl fs i1 i2 fin hi => (m_iload (m_aload (m_getr (m_geti (m_if2 (m_xgo hi) (m_iload (m_if1 (m_xgo hi) (m_aload (m_iconst (m_callv hi))))))))))
theorem mobx_636 : xBm bx_636 := fun dl fs i1 i2 fin hi => (m_iconst (m_if2 (m_xgo hi) (m_aload (m_callv hi))))
theorem mobx_637 : xBm bx_637 := fun dl fs i1 i2 fin hi => (m_aload (m_callv hi))
theorem mobx_638 : xBm bx_638 := fun dl fs i1 i2 fin hi => (m_istore (m_iconst (m_istore (m_aload (m_iconst (m_callv hi))))))
theorem mobx_639 : xBm bx_639 := fun dl fs i1 i2 fin hi => (m_iconst (m_if2 (m_xgo hi) m_no))
theorem mobx_640 : xBm bx_640 := fun dl fs i1 i2 fin hi => (m_aload (m_callv hi))
theorem mobx_641 : xBm bx_641 := fun dl fs i1 i2 fin hi => (m_istore (m_iload (m_if1 m_no (m_aload (m_getr (m_getr (m_iload (m_iload (m_ast (m_xgo hi))))))))))
theorem mobx_642 : xBm bx_642 := fun dl fs i1 i2 fin hi => (m_iload (m_istore (m_iinc (m_xgo hi))))
theorem mobx_643 : xBm bx_643 := fun dl fs i1 i2 fin hi => (m_aload (m_dup (m_geti (m_iconst (m_bin (m_puti (m_aload (m_geti (m_istore (m_aload (m_getr (m_getr (m_iload (m_aload (m_iconst (m_callv hi))))))))))))))))
theorem mobx_644 : xBm bx_644 := fun dl fs i1 i2 fin hi => (m_ast (m_aload (m_getr (m_getr (m_iload (m_aload (m_geti (m_iload (m_bin (m_ast (m_aload (m_dup (m_geti (m_iconst (m_bin (m_puti (m_iload (m_iret hi))))))))))))))))))
theorem mobx_645 : xBm bx_645 := fun dl fs i1 i2 fin hi => (m_aload (m_callv hi))
theorem mobx_646 : xBm bx_646 := fun dl fs i1 i2 fin hi => (m_iconst (m_istore (m_iconst (m_istore (m_iconst (m_istore (m_aload (m_iconst (m_callv hi)))))))))
theorem mobx_647 : xBm bx_647 := fun dl fs i1 i2 fin hi => (m_iconst (m_if2 (m_xgo hi) m_no))
theorem mobx_648 : xBm bx_648 := fun dl fs i1 i2 fin hi => (m_aload (m_iconst (m_callv hi)))
theorem mobx_649 : xBm bx_649 := fun dl fs i1 i2 fin hi => (m_iload (m_if1 m_no (m_aload (m_getr (m_iconst (m_iload (m_iconst (m_iconst (m_callv hi)))))))))
theorem mobx_650 : xBm bx_650 := fun dl fs i1 i2 fin hi => (m_iret hi)
theorem mobx_651 : xBm bx_651 := fun dl fs i1 i2 fin hi => (m_aload (m_callv hi))
theorem mobx_652 : xBm bx_652 := fun dl fs i1 i2 fin hi => (m_iconst (m_istore (m_iconst (m_istore (m_aload (m_iconst (m_callv hi)))))))
theorem mobx_653 : xBm bx_653 := fun dl fs i1 i2 fin hi => (m_iconst (m_if2 (m_xgo hi) m_no))
theorem mobx_654 : xBm bx_654 := fun dl fs i1 i2 fin hi => (m_iconst (m_istore (m_iconst (m_istore (m_iload (m_aload (m_getr (m_geti (m_if2 (m_xgo hi) (m_iload (m_if1 (m_xgo hi) m_no)))))))))))
theorem mobx_655 : xBm bx_655 := fun dl fs i1 i2 fin hi => (m_aload (m_iconst (m_callv hi)))
theorem mobx_656 : xBm bx_656 := fun dl fs i1 i2 fin hi => (m_aload (m_iload (m_iconst (m_iconst (m_iconst (m_callv hi))))))
theorem mobx_657 : xBm bx_657 := fun dl fs i1 i2 fin hi => (m_istore (m_iload (m_if1 m_no (m_iload (m_iret hi)))))
theorem mobx_658 : xBm bx_658 := fun dl fs i1 i2 fin hi => (m_aload (m_getr (m_aload (m_geti (m_iload (m_bin (m_callv hi)))))))
theorem mobx_659 : xBm bx_659 := fun dl fs i1 i2 fin hi => (m_iret hi)
theorem mobx_660 : xBm bx_660 := fun dl fs i1 i2 fin hi => (m_iconst (m_istore (m_iconst (m_istore (m_aload (m_iconst (m_callv hi)))))))
theorem mobx_661 : xBm bx_661 := fun dl fs i1 i2 fin hi => (m_iconst (m_if2 (m_xgo hi) m_no))
theorem mobx_662 : xBm bx_662 := fun dl fs i1 i2 fin hi => (m_aload (m_callv hi))
theorem mobx_663 : xBm bx_663 := fun dl fs i1 i2 fin hi => (m_istore (m_iconst (m_istore (m_iconst (m_istore (m_iconst (m_istore (m_iload (m_aload (m_getr (m_geti (m_if2 (m_xgo hi) (m_aload (m_callv hi))))))))))))))
theorem mobx_664 : xBm bx_664 := fun dl fs i1 i2 fin hi => (m_iload (m_aload (m_getr (m_geti (m_if2 (m_xgo hi) (m_aload (m_callv hi)))))))
theorem mobx_665 : xBm bx_665 := fun dl fs i1 i2 fin hi => (m_if1 (m_xgo hi) (m_aload (m_callv hi)))
theorem mobx_666 : xBm bx_666 := fun dl fs i1 i2 fin hi => (m_istore (m_iload (m_if1 (m_xgo hi) (m_iload (m_istore (m_xgo hi))))))
theorem mobx_667 : xBm bx_667 := fun dl fs i1 i2 fin hi => (m_aload (m_getr (m_getr (m_iload (m_iload (m_ast (m_iload (m_istore (m_iinc (m_xgo hi))))))))))
theorem mobx_668 : xBm bx_668 := fun dl fs i1 i2 fin hi => (m_iload (m_istore (m_iinc (m_xgo hi))))
theorem mobx_669 : xBm bx_669 := fun dl fs i1 i2 fin hi => (m_iload (m_if1 (m_xgo hi) m_no))
theorem mobx_670 : xBm bx_670 := fun dl fs i1 i2 fin hi => (m_iload (m_if1 (m_xgo hi) (m_iload (m_xgo hi))))
theorem mobx_671 : xBm bx_671 := fun dl fs i1 i2 fin hi => (m_aload (m_iload (m_iload (m_iload (m_callv hi)))))
theorem mobx_672 : xBm bx_672 := fun dl fs i1 i2 fin hi => (m_iret hi)
theorem mobx_673 : xBm bx_673 := fun dl fs i1 i2 fin hi => (m_aload (m_callv hi))
theorem mobx_674 : xBm bx_674 := fun dl fs i1 i2 fin hi => (m_istore (m_aload (m_iconst (m_callv hi))))
theorem mobx_675 : xBm bx_675 := fun dl fs i1 i2 fin hi => (m_iconst (m_if2 (m_xgo hi) (m_aload (m_dup (m_geti (m_iconst (m_bin (m_puti (m_aload (m_callv hi))))))))))
theorem mobx_676 : xBm bx_676 := fun dl fs i1 i2 fin hi => (m_istore (m_aload (m_iconst (m_callv hi))))
theorem mobx_677 : xBm bx_677 := fun dl fs i1 i2 fin hi => (m_aload (m_iconst (m_callv hi)))
theorem mobx_678 : xBm bx_678 := fun dl fs i1 i2 fin hi => (m_aload (m_getr (m_iload (m_iload (m_iload (m_iconst (m_callv hi)))))))
theorem mobx_679 : xBm bx_679 := fun dl fs i1 i2 fin hi => (m_iret hi)
theorem mobx_680 : xBm bx_680 := fun dl fs i1 i2 fin hi => (m_aload (m_iconst (m_callv hi)))
theorem mobx_681 : xBm bx_681 := fun dl fs i1 i2 fin hi => (m_iconst (m_if2 (m_xgo hi) (m_iconst (m_xgo hi))))
theorem mobx_682 : xBm bx_682 := fun dl fs i1 i2 fin hi => (m_iconst (m_istore (m_iload (m_if1 (m_xgo hi) (m_aload (m_iconst (m_callv hi)))))))
theorem mobx_683 : xBm bx_683 := fun dl fs i1 i2 fin hi => (m_istore (m_iload (m_if1 (m_xgo hi) (m_aload (m_iconst (m_callv hi))))))
theorem mobx_684 : xBm bx_684 := fun dl fs i1 i2 fin hi => (m_iconst (m_if2 (m_xgo hi) m_no))
theorem mobx_685 : xBm bx_685 := fun dl fs i1 i2 fin hi => (m_aload (m_callv hi))
theorem mobx_686 : xBm bx_686 := fun dl fs i1 i2 fin hi => (m_istore (m_aload (m_dup (m_geti (m_iconst (m_bin (m_puti (m_iload (m_if1 (m_xgo hi) (m_iload (m_iconst (m_if2 (m_xgo hi) (m_aload (m_getr (m_iconst (m_iload (m_iload (m_iconst (m_callv hi)))))))))))))))))))
theorem mobx_687 : xBm bx_687 := fun dl fs i1 i2 fin hi => (m_iret hi)
theorem mobx_688 : xBm bx_688 := fun dl fs i1 i2 fin hi => (m_aload (m_getr (m_iload (m_iload (m_iload (m_iconst (m_callv hi)))))))
theorem mobx_689 : xBm bx_689 := fun dl fs i1 i2 fin hi => (m_iret hi)
theorem mobx_690 : xBm bx_690 := fun dl fs i1 i2 fin hi => (m_aload (m_iconst (m_callv hi)))
theorem mobx_691 : xBm bx_691 := fun dl fs i1 i2 fin hi => (m_iconst (m_if2 (m_xgo hi) (m_aload (m_callv hi))))
theorem mobx_692 : xBm bx_692 := fun dl fs i1 i2 fin hi => (m_iret hi)
theorem mobx_693 : xBm bx_693 := fun dl fs i1 i2 fin hi => (m_aload (m_callv hi))
theorem mobx_694 : xBm bx_694 := fun dl fs i1 i2 fin hi => (m_istore (m_aload (m_callv hi)))
theorem mobx_695 : xBm bx_695 := fun dl fs i1 i2 fin hi => (m_istore (m_aload (m_dup (m_geti (m_iconst (m_bin (m_puti (m_iconst (m_istore (m_iconst (m_istore (m_iconst (m_istore (m_iload (m_aload (m_getr (m_geti (m_if2 (m_xgo hi) (m_aload (m_callv hi))))))))))))))))))))
theorem mobx_696 : xBm bx_696 := fun dl fs i1 i2 fin hi => (m_if1 (m_xgo hi) m_no)
theorem mobx_697 : xBm bx_697 := fun dl fs i1 i2 fin hi => (m_aload (m_getr (m_iconst (m_iload (m_iload (m_iload (m_callv hi)))))))
theorem mobx_698 : xBm bx_698 := fun dl fs i1 i2 fin hi => (m_istore (m_aload (m_getr (m_getr (m_iload (m_iload (m_ast (m_iload (m_iret hi)))))))))
theorem mobx_699 : xBm bx_699 := fun dl fs i1 i2 fin hi => (m_iconst (m_istore (m_iconst (m_istore (m_iconst (m_istore (m_iload (m_aload (m_getr (m_geti (m_if2 m_no (m_aload (m_iconst (m_callv hi))))))))))))))
theorem mobx_700 : xBm bx_700 := fun dl fs i1 i2 fin hi => (m_iload (m_aload (m_getr (m_geti (m_if2 m_no (m_aload (m_iconst (m_callv hi))))))))
theorem mobx_701 : xBm bx_701 := fun dl fs i1 i2 fin hi => (m_iconst (m_if2 (m_xgo hi) m_no))
theorem mobx_702 : xBm bx_702 := fun dl fs i1 i2 fin hi => (m_aload (m_callv hi))
theorem mobx_703 : xBm bx_703 := fun dl fs i1 i2 fin hi => (m_istore (m_aload (m_iconst (m_callv hi))))
theorem mobx_704 : xBm bx_704 := fun dl fs i1 i2 fin hi => (m_iconst (m_if2 (m_xgo hi) (m_iconst (m_xgo hi))))
theorem mobx_705 : xBm bx_705 := fun dl fs i1 i2 fin hi => (m_iconst (m_istore (m_iload (m_if1 (m_xgo hi) (m_aload (m_aload (m_callv hi)))))))
theorem mobx_706 : xBm bx_706 := fun dl fs i1 i2 fin hi => (m_istore (m_iload (m_if1 (m_xgo hi) (m_aload (m_aload (m_callv hi))))))
theorem mobx_707 : xBm bx_707 := fun dl fs i1 i2 fin hi => (m_iconst (m_iload (m_iconst (m_callv hi))))
theorem mobx_708 : xBm bx_708 := fun dl fs i1 i2 fin hi => (m_xgo hi)
theorem mobx_709 : xBm bx_709 := fun dl fs i1 i2 fin hi => (m_iload (m_istore (m_iload (m_if1 (m_xgo hi) (m_iload (m_istore (m_xgo hi)))))))
theorem mobx_710 : xBm bx_710 := fun dl fs i1 i2 fin hi => (m_istore (m_iload (m_if1 (m_xgo hi) (m_iload (m_istore (m_xgo hi))))))
theorem mobx_711 : xBm bx_711 := fun dl fs i1 i2 fin hi => (m_aload (m_getr (m_getr (m_iload (m_iload (m_ast (m_iload (m_istore (m_iload (m_if1 (m_xgo hi) (m_iload (m_iret hi))))))))))))
theorem mobx_712 : xBm bx_712 := fun dl fs i1 i2 fin hi => (m_iload (m_istore (m_iload (m_if1 (m_xgo hi) (m_iload (m_iret hi))))))
theorem mobx_713 : xBm bx_713 := fun dl fs i1 i2 fin hi => (m_aload (m_dup (m_geti (m_iconst (m_bin (m_puti (m_iinc (m_xgo hi))))))))
theorem mobx_714 : xBm bx_714 := fun dl fs i1 i2 fin hi => (m_aload (m_getr (m_aload (m_geti (m_callv hi)))))
theorem mobx_715 : xBm bx_715 := fun dl fs i1 i2 fin hi => (m_iret hi)
theorem mobx_716 : xBm bx_716 := fun dl fs i1 i2 fin hi => (m_aload (m_callv hi))
theorem mobx_717 : xBm bx_717 := fun dl fs i1 i2 fin hi => (m_istore (m_aload (m_callv hi)))
theorem mobx_718 : xBm bx_718 := fun dl fs i1 i2 fin hi => (m_istore (m_aload (m_iconst (m_callv hi))))
theorem mobx_719 : xBm bx_719 := fun dl fs i1 i2 fin hi => (m_table (And.intro (m_xgo hi) (And.intro (m_xgo hi) (And.intro (m_xgo hi) (And.intro m_no (And.intro m_no (And.intro (m_xgo hi) (And.intro m_no (And.intro (m_xgo hi) True.intro)))))))) m_no)
theorem mobx_720 : xBm bx_720 := fun dl fs i1 i2 fin hi => (m_aload (m_dup (m_geti (m_iconst (m_bin (m_puti (m_aload (m_getr (m_iconst (m_iload (m_iload (m_iconst (m_callv hi)))))))))))))
theorem mobx_721 : xBm bx_721 := fun dl fs i1 i2 fin hi => (m_iret hi)
theorem mobx_722 : xBm bx_722 := fun dl fs i1 i2 fin hi => (m_aload (m_dup (m_geti (m_iconst (m_bin (m_puti (m_aload (m_getr (m_iconst (m_iload (m_iconst (m_iconst (m_callv hi)))))))))))))
theorem mobx_723 : xBm bx_723 := fun dl fs i1 i2 fin hi => (m_iret hi)
theorem mobx_724 : xBm bx_724 := fun dl fs i1 i2 fin hi => (m_aload (m_dup (m_geti (m_iconst (m_bin (m_puti (m_aload (m_getr (m_iconst (m_iload (m_iload (m_iconst (m_callv hi)))))))))))))
theorem mobx_725 : xBm bx_725 := fun dl fs i1 i2 fin hi => (m_iret hi)
theorem mobx_726 : xBm bx_726 := fun dl fs i1 i2 fin hi => (m_aload (m_iload (m_callv hi)))
theorem mobx_727 : xBm bx_727 := fun dl fs i1 i2 fin hi => (m_iret hi)
theorem mobx_728 : xBm bx_728 := fun dl fs i1 i2 fin hi => (m_aload (m_iload (m_callv hi)))
theorem mobx_729 : xBm bx_729 := fun dl fs i1 i2 fin hi => (m_iret hi)
theorem mobx_730 : xBm bx_730 := fun dl fs i1 i2 fin hi => (m_aload (m_callv hi))
theorem mobx_731 : xBm bx_731 := fun dl fs i1 i2 fin hi => (m_iconst (m_istore (m_iconst (m_istore (m_iconst (m_istore (m_iload (m_aload (m_getr (m_geti (m_if2 (m_xgo hi) (m_aload (m_getr (m_geti (m_iconst (m_if2 (m_xgo hi) (m_aload (m_geti (m_aload (m_getr (m_geti (m_if2 (m_xgo hi) (m_xgo hi)))))))))))))))))))))))
theorem mobx_732 : xBm bx_732 := fun dl fs i1 i2 fin hi => (m_iload (m_aload (m_getr (m_geti (m_if2 (m_xgo hi) (m_aload (m_getr (m_geti (m_iconst (m_if2 (m_xgo hi) (m_aload (m_geti (m_aload (m_getr (m_geti (m_if2 (m_xgo hi) (m_iconst (m_istore (m_aload (m_iconst (m_callv hi)))))))))))))))))))))
theorem mobx_733 : xBm bx_733 := fun dl fs i1 i2 fin hi => (m_istore (m_aload (m_iconst (m_callv hi))))
theorem mobx_734 : xBm bx_734 := fun dl fs i1 i2 fin hi => (m_istore (m_iload (m_iconst (m_if2 (m_xgo hi) (m_aload (m_callv hi))))))
theorem mobx_735 : xBm bx_735 := fun dl fs i1 i2 fin hi => (m_istore (m_xgo hi))
theorem mobx_736 : xBm bx_736 := fun dl fs i1 i2 fin hi => (m_iload (m_iconst (m_if2 (m_xgo hi) (m_iload (m_iconst (m_if2 (m_xgo hi) (m_iload (m_iconst (m_if2 (m_xgo hi) (m_xgo hi))))))))))
theorem mobx_737 : xBm bx_737 := fun dl fs i1 i2 fin hi => (m_aload (m_callv hi))
theorem mobx_738 : xBm bx_738 := fun dl fs i1 i2 fin hi => (m_istore (m_xgo hi))
theorem mobx_739 : xBm bx_739 := fun dl fs i1 i2 fin hi => (m_iload (m_iconst (m_if2 (m_xgo hi) (m_iload (m_iconst (m_if2 (m_xgo hi) (m_iload (m_iconst (m_if2 (m_xgo hi) (m_iload (m_iconst (m_if2 (m_xgo hi) (m_xgo hi)))))))))))))
theorem mobx_740 : xBm bx_740 := fun dl fs i1 i2 fin hi => (m_iload (m_iconst (m_if2 (m_xgo hi) (m_iload (m_iconst (m_if2 (m_xgo hi) (m_aload (m_callv hi))))))))
theorem mobx_741 : xBm bx_741 := fun dl fs i1 i2 fin hi => (m_aload (m_callv hi))
theorem mobx_742 : xBm bx_742 := fun dl fs i1 i2 fin hi => (m_istore (m_xgo hi))
theorem mobx_743 : xBm bx_743 := fun dl fs i1 i2 fin hi => (m_aload (m_iload (m_iconst (m_if2 (m_xgo hi) (m_iload (m_iconst (m_if2 (m_xgo hi) (m_iload (m_iconst (m_if2 (m_xgo hi) (m_iload (m_iconst (m_if2 (m_xgo hi) (m_xgo hi))))))))))))))
theorem mobx_744 : xBm bx_744 := fun dl fs i1 i2 fin hi => (m_iconst (m_xgo hi))
theorem mobx_745 : xBm bx_745 := fun dl fs i1 i2 fin hi => (m_iconst (m_callv hi))
theorem mobx_746 : xBm bx_746 := fun dl fs i1 i2 fin hi => (m_callv hi)
theorem mobx_747 : xBm bx_747 := fun dl fs i1 i2 fin hi => (m_istore (m_aload (m_iconst (m_callv hi))))
theorem mobx_748 : xBm bx_748 := fun dl fs i1 i2 fin hi => (m_aload (m_iconst (m_callv hi)))
theorem mobx_749 : xBm bx_749 := fun dl fs i1 i2 fin hi => (m_iload (m_if1 (m_xgo hi) (m_iload (m_istore (m_xgo hi)))))
theorem mobx_750 : xBm bx_750 := fun dl fs i1 i2 fin hi => (m_aload (m_getr (m_getr (m_iload (m_iload (m_ast (m_iload (m_istore (m_iinc (m_xgo hi))))))))))
theorem mobx_751 : xBm bx_751 := fun dl fs i1 i2 fin hi => (m_iload (m_istore (m_iinc (m_xgo hi))))
theorem mobx_752 : xBm bx_752 := fun dl fs i1 i2 fin hi => (m_iload (m_iret hi))
theorem mobx_753 : xBm bx_753 := fun dl fs i1 i2 fin hi => (m_aload (m_geti (m_istore (m_aload (m_iconst (m_callv hi))))))
theorem mobx_754 : xBm bx_754 := fun dl fs i1 i2 fin hi => (m_iconst (m_if2 (m_xgo hi) m_no))
theorem mobx_755 : xBm bx_755 := fun dl fs i1 i2 fin hi => (m_iconst (m_istore (m_iconst (m_istore (m_iconst (m_istore (m_iload (m_iconst (m_if2 (m_xgo hi) (m_aload (m_iconst (m_callv hi))))))))))))
theorem mobx_756 : xBm bx_756 := fun dl fs i1 i2 fin hi => (m_aload (m_iconst (m_callv hi)))
theorem mobx_757 : xBm bx_757 := fun dl fs i1 i2 fin hi => (m_istore (m_iconst (m_istore (m_iload (m_aload (m_getr (m_geti (m_if2 (m_xgo hi) (m_iload (m_iconst (m_if2 (m_xgo hi) m_no)))))))))))
theorem mobx_758 : xBm bx_758 := fun dl fs i1 i2 fin hi => (m_iconst (m_istore (m_aload (m_iconst (m_callv hi)))))
theorem mobx_759 : xBm bx_759 := fun dl fs i1 i2 fin hi => (m_iconst (m_if2 (m_xgo hi) m_no))
theorem mobx_760 : xBm bx_760 := fun dl fs i1 i2 fin hi => (m_aload (m_getr (m_iload (m_aload (m_getr (m_iload (m_callv hi)))))))
theorem mobx_761 : xBm bx_761 := fun dl fs i1 i2 fin hi => (m_iload (m_iload (m_callv hi)))
theorem mobx_762 : xBm bx_762 := fun dl fs i1 i2 fin hi => (m_istore (m_aload (m_getr (m_getr (m_iload (m_aload (m_geti (m_iload (m_bin (m_ast (m_aload (m_getr (m_getr (m_iload (m_aload (m_geti (m_iload (m_bin (m_ast (m_iload (m_iret hi)))))))))))))))))))))
theorem mobx_763 : xBm bx_763 := fun dl fs i1 i2 fin hi => (m_aload (m_iconst (m_callv hi)))
theorem mobx_764 : xBm bx_764 := fun dl fs i1 i2 fin hi => (m_iconst (m_if2 (m_xgo hi) m_no))
theorem mobx_765 : xBm bx_765 := fun dl fs i1 i2 fin hi => (m_aload (m_iconst (m_callv hi)))
theorem mobx_766 : xBm bx_766 := fun dl fs i1 i2 fin hi => (m_istore (m_aload (m_geti (m_if1 (m_xgo hi) m_no))))
theorem mobx_767 : xBm bx_767 := fun dl fs i1 i2 fin hi => (m_iload (m_istore (m_iconst (m_istore (m_iload (m_iconst (m_if2 (m_xgo hi) (m_aload (m_iconst (m_callv hi))))))))))
theorem mobx_768 : xBm bx_768 := fun dl fs i1 i2 fin hi => (m_iconst (m_if2 (m_xgo hi) m_no))
theorem mobx_769 : xBm bx_769 := fun dl fs i1 i2 fin hi => (m_iload (m_iconst (m_if2 m_no (m_iload (m_iret hi)))))
theorem mobx_770 : xBm bx_770 := fun dl fs i1 i2 fin hi => (m_aload (m_callv hi))
theorem mobx_771 : xBm bx_771 := fun dl fs i1 i2 fin hi => (m_iconst (m_istore (m_iconst (m_istore (m_iconst (m_istore (m_aload (m_iconst (m_callv hi)))))))))
theorem mobx_772 : xBm bx_772 := fun dl fs i1 i2 fin hi => (m_iconst (m_if2 (m_xgo hi) (m_aload (m_callv hi))))
theorem mobx_773 : xBm bx_773 := fun dl fs i1 i2 fin hi => (m_istore (m_iload (m_istore (m_iconst (m_istore (m_iload (m_iconst (m_if2 (m_xgo hi) (m_aload (m_iconst (m_callv hi)))))))))))
theorem mobx_774 : xBm bx_774 := fun dl fs i1 i2 fin hi => (m_iconst (m_if2 (m_xgo hi) m_no))
theorem mobx_775 : xBm bx_775 := fun dl fs i1 i2 fin hi => (m_aload (m_iconst (m_callv hi)))
theorem mobx_776 : xBm bx_776 := fun dl fs i1 i2 fin hi => (m_iload (m_iconst (m_if2 m_no (m_iload (m_iret hi)))))
theorem mobx_777 : xBm bx_777 := fun dl fs i1 i2 fin hi => (m_aload (m_callv hi))
theorem mobx_778 : xBm bx_778 := fun dl fs i1 i2 fin hi => (m_iconst (m_istore (m_iconst (m_istore (m_iconst (m_istore (m_aload (m_iconst (m_callv hi)))))))))
theorem mobx_779 : xBm bx_779 := fun dl fs i1 i2 fin hi => (m_iconst (m_if2 (m_xgo hi) (m_aload (m_callv hi))))
theorem mobx_780 : xBm bx_780 := fun dl fs i1 i2 fin hi => (m_istore (m_iload (m_istore (m_iconst (m_istore (m_iload (m_iconst (m_if2 (m_xgo hi) (m_aload (m_iconst (m_callv hi)))))))))))
theorem mobx_781 : xBm bx_781 := fun dl fs i1 i2 fin hi => (m_iconst (m_if2 (m_xgo hi) m_no))
theorem mobx_782 : xBm bx_782 := fun dl fs i1 i2 fin hi => (m_aload (m_iconst (m_callv hi)))
theorem mobx_783 : xBm bx_783 := fun dl fs i1 i2 fin hi => (m_iload (m_iconst (m_if2 m_no (m_iload (m_iret hi)))))
theorem mobx_784 : xBm bx_784 := fun dl fs i1 i2 fin hi => (m_aload (m_callv hi))
theorem mobx_785 : xBm bx_785 := fun dl fs i1 i2 fin hi => (m_istore (m_iload (m_istore (m_iconst (m_istore (m_aload (m_callv hi)))))))
theorem mobx_786 : xBm bx_786 := fun dl fs i1 i2 fin hi => (m_aload (m_callv hi))
theorem mobx_787 : xBm bx_787 := fun dl fs i1 i2 fin hi => (m_if1 (m_xgo hi) (m_iload (m_iconst (m_if2 (m_xgo hi) m_no))))
theorem mobx_788 : xBm bx_788 := fun dl fs i1 i2 fin hi => (m_aload (m_iconst (m_callv hi)))
theorem mobx_789 : xBm bx_789 := fun dl fs i1 i2 fin hi => (m_istore (m_iload (m_if1 (m_xgo hi) m_no)))
theorem mobx_790 : xBm bx_790 := fun dl fs i1 i2 fin hi => (m_aload (m_callv hi))
theorem mobx_791 : xBm bx_791 := fun dl fs i1 i2 fin hi => (m_istore (m_iload (m_if1 (m_xgo hi) m_no)))
theorem mobx_792 : xBm bx_792 := fun dl fs i1 i2 fin hi => (m_aload (m_callv hi))
theorem mobx_793 : xBm bx_793 := fun dl fs i1 i2 fin hi => (m_istore (m_aload (m_getr (m_getr (m_iload (m_iload (m_ast (m_aload (m_getr (m_getr (m_iload (m_iload (m_ast (m_iload (m_istore (m_iload (m_if1 (m_xgo hi) m_no)))))))))))))))))
theorem mobx_794 : xBm bx_794 := fun dl fs i1 i2 fin hi => (m_iinc (m_xgo hi))
theorem mobx_795 : xBm bx_795 := fun dl fs i1 i2 fin hi => (m_iload (m_iload (m_if2 (m_xgo hi) (m_iload (m_xgo hi)))))
theorem mobx_796 : xBm bx_796 := fun dl fs i1 i2 fin hi => (m_aload (m_getr (m_iconst (m_aload (m_getr (m_getr (m_iload (m_ald (m_iload (m_iconst (m_callv hi)))))))))))
theorem mobx_797 : xBm bx_797 := fun dl fs i1 i2 fin hi => (m_iret hi)
theorem mobx_798 : xBm bx_798 := fun dl fs i1 i2 fin hi => (m_aload (m_geti (m_istore (m_aload (m_getr (m_iconst (m_aload (m_callv hi))))))))
theorem mobx_799 : xBm bx_799 := fun dl fs i1 i2 fin hi => (m_aload (m_callv hi))
theorem mobx_800 : xBm bx_800 := fun dl fs i1 i2 fin hi => (m_iconst (m_callv hi))
theorem mobx_801 : xBm bx_801 := fun dl fs i1 i2 fin hi => (m_istore (m_iload (m_if1 (m_xgo hi) (m_aload (m_callv hi)))))
theorem mobx_802 : xBm bx_802 := fun dl fs i1 i2 fin hi => (m_istore (m_aload (m_iconst (m_callv hi))))
theorem mobx_803 : xBm bx_803 := fun dl fs i1 i2 fin hi => (m_iconst (m_if2 (m_xgo hi) m_no))
theorem mobx_804 : xBm bx_804 := fun dl fs i1 i2 fin hi => (m_aload (m_iconst (m_callv hi)))
theorem mobx_805 : xBm bx_805 := fun dl fs i1 i2 fin hi => (m_istore (m_aload (m_getr (m_getr (m_iload (m_aload (m_getr (m_getr (m_iload (m_ald (m_ast (m_aload (m_getr (m_getr (m_iload (m_aload (m_getr (m_getr (m_iload (m_ald (m_ast (m_aload (m_xgo hi)))))))))))))))))))))))
theorem mobx_806 : xBm bx_806 := fun dl fs i1 i2 fin hi => (m_ast (m_xgo hi))
theorem mobx_807 : xBm bx_807 := fun dl fs i1 i2 fin hi => (m_aload (m_dup (m_geti (m_iconst (m_bin (m_puti (m_iconst (m_istore (m_iconst (m_istore (m_xgo hi)))))))))))
theorem mobx_808 : xBm bx_808 := fun dl fs i1 i2 fin hi => (m_iload (m_aload (m_getr (m_geti (m_if2 (m_xgo hi) (m_aload (m_callv hi)))))))
theorem mobx_809 : xBm bx_809 := fun dl fs i1 i2 fin hi => (m_if1 (m_xgo hi) (m_aload (m_callv hi)))
theorem mobx_810 : xBm bx_810 := fun dl fs i1 i2 fin hi => (m_istore (m_iload (m_if1 (m_xgo hi) (m_aload (m_getr (m_getr (m_iload (m_iload (m_ast (m_xgo hi))))))))))
theorem mobx_811 : xBm bx_811 := fun dl fs i1 i2 fin hi => (m_aload (m_getr (m_getr (m_iload (m_iload (m_ast (m_iload (m_istore (m_iinc (m_xgo hi))))))))))
theorem mobx_812 : xBm bx_812 := fun dl fs i1 i2 fin hi => (m_iload (m_istore (m_iinc (m_xgo hi))))
theorem mobx_813 : xBm bx_813 := fun dl fs i1 i2 fin hi => (m_aload (m_getr (m_getr (m_iload (m_aload (m_getr (m_geti (m_ast (m_aload (m_getr (m_getr (m_iload (m_aload (m_iload (m_callv hi)))))))))))))))
theorem mobx_814 : xBm bx_814 := fun dl fs i1 i2 fin hi => (m_ast (m_iload (m_iret hi)))
theorem mobx_815 : xBm bx_815 := fun dl fs i1 i2 fin hi => (m_aload (m_iconst (m_callv hi)))
theorem mobx_816 : xBm bx_816 := fun dl fs i1 i2 fin hi => (m_iconst (m_if2 (m_xgo hi) (m_iconst (m_xgo hi))))
theorem mobx_817 : xBm bx_817 := fun dl fs i1 i2 fin hi => (m_iconst (m_istore (m_iload (m_if1 (m_xgo hi) (m_aload (m_dup (m_geti (m_iconst (m_bin (m_puti (m_xgo hi)))))))))))
theorem mobx_818 : xBm bx_818 := fun dl fs i1 i2 fin hi => (m_istore (m_iload (m_if1 (m_xgo hi) (m_aload (m_dup (m_geti (m_iconst (m_bin (m_puti (m_xgo hi))))))))))
theorem mobx_819 : xBm bx_819 := fun dl fs i1 i2 fin hi => (m_aload (m_getr (m_iconst (m_aload (m_callv hi)))))
theorem mobx_820 : xBm bx_820 := fun dl fs i1 i2 fin hi => (m_aload (m_callv hi))
theorem mobx_821 : xBm bx_821 := fun dl fs i1 i2 fin hi => (m_iconst (m_callv hi))
theorem mobx_822 : xBm bx_822 := fun dl fs i1 i2 fin hi => (m_istore (m_aload (m_dup (m_geti (m_iconst (m_bin (m_puti (m_iload (m_if1 (m_xgo hi) (m_aload (m_iconst (m_callv hi))))))))))))
theorem mobx_823 : xBm bx_823 := fun dl fs i1 i2 fin hi => (m_aload (m_iconst (m_callv hi)))
theorem mobx_824 : xBm bx_824 := fun dl fs i1 i2 fin hi => (m_aload (m_geti (m_istore (m_aload (m_getr (m_getr (m_iload (m_aload (m_callv hi)))))))))
theorem mobx_825 : xBm bx_825 := fun dl fs i1 i2 fin hi => (m_ast (m_aload (m_getr (m_getr (m_iload (m_aload (m_geti (m_ast (m_aload (m_getr (m_getr (m_iload (m_aload (m_geti (m_iload (m_bin (m_ast (m_iload (m_iret hi)))))))))))))))))))
theorem mobx_826 : xBm bx_826 := fun dl fs i1 i2 fin hi => (m_aload (m_iconst (m_puti (m_aload (m_iconst (m_puti (m_aload (m_iconst (m_putz (m_aload (m_aload (m_getr (m_geti (m_puti (m_aload (m_iconst (m_puti (m_aload (m_iconst (m_puti (m_ret hi)))))))))))))))))))))
theorem mobx_827 : xBm bx_827 := fun dl fs i1 i2 fin hi => (m_aload (m_iconst (m_callv hi)))
theorem mobx_828 : xBm bx_828 := fun dl fs i1 i2 fin hi => (m_iload (m_if2 (m_xgo hi) m_no))
theorem mobx_829 : xBm bx_829 := fun dl fs i1 i2 fin hi => (m_aload (m_dup (m_geti (m_iconst (m_bin (m_puti (m_ret hi)))))))
theorem mobx_830 : xBm bx_830 := fun dl fs i1 i2 fin hi => (m_aload (m_iconst (m_callv hi)))
theorem mobx_831 : xBm bx_831 := fun dl fs i1 i2 fin hi => (m_iload (m_if2 (m_xgo hi) m_no))
theorem mobx_832 : xBm bx_832 := fun dl fs i1 i2 fin hi => (m_aload (m_dup (m_geti (m_iconst (m_bin (m_puti (m_aload (m_dup (m_geti (m_iconst (m_bin (m_puti (m_ret hi)))))))))))))
theorem mobx_833 : xBm bx_833 := fun dl fs i1 i2 fin hi => (m_aload (m_geti (m_iconst (m_if2 (m_xgo hi) m_no))))
theorem mobx_834 : xBm bx_834 := fun dl fs i1 i2 fin hi => (m_aload (m_dup (m_geti (m_iconst (m_bin (m_puti (m_aload (m_dup (m_geti (m_iconst (m_bin (m_puti (m_ret hi)))))))))))))
theorem mobx_835 : xBm bx_835 := fun dl fs i1 i2 fin hi => (m_aload (m_callv hi))
theorem mobx_836 : xBm bx_836 := fun dl fs i1 i2 fin hi => (m_istore (m_iconst (m_istore (m_iconst (m_istore (m_iload (m_aload (m_getr (m_geti (m_if2 (m_xgo hi) (m_aload (m_iconst (m_callv hi)))))))))))))
theorem mobx_837 : xBm bx_837 := fun dl fs i1 i2 fin hi => (m_iload (m_aload (m_getr (m_geti (m_if2 (m_xgo hi) (m_aload (m_iconst (m_callv hi))))))))
theorem mobx_838 : xBm bx_838 := fun dl fs i1 i2 fin hi => (m_iconst (m_if2 (m_xgo hi) (m_aload (m_dup (m_geti (m_iconst (m_bin (m_puti (m_aload (m_getr (m_getr (m_iload (m_iload (m_ast (m_iload (m_istore (m_aload (m_callv hi))))))))))))))))))
theorem mobx_839 : xBm bx_839 := fun dl fs i1 i2 fin hi => (m_istore (m_iinc (m_xgo hi)))
theorem mobx_840 : xBm bx_840 := fun dl fs i1 i2 fin hi => (m_aload (m_iload (m_puti (m_iconst (m_istore (m_iload (m_iload (m_if2 (m_xgo hi) (m_iload (m_if1 (m_xgo hi) (m_iload (m_istore (m_aload (m_getr (m_getr (m_iload (m_ald (m_istore (m_aload (m_getr (m_getr (m_iload (m_xgo hi)))))))))))))))))))))))
theorem mobx_841 : xBm bx_841 := fun dl fs i1 i2 fin hi => (m_iload (m_iload (m_if2 (m_xgo hi) (m_iload (m_if1 (m_xgo hi) (m_iload (m_istore (m_aload (m_getr (m_getr (m_iload (m_ald (m_istore (m_aload (m_getr (m_getr (m_iload (m_iload (m_ast (m_aload (m_getr (m_iconst (m_xgo hi)))))))))))))))))))))))
theorem mobx_842 : xBm bx_842 := fun dl fs i1 i2 fin hi => (m_istore (m_aload (m_getr (m_getr (m_iload (m_iconst (m_ast (m_iinc (m_xgo hi)))))))))
theorem mobx_843 : xBm bx_843 := fun dl fs i1 i2 fin hi => (m_iload (m_iret hi))
theorem mobx_844 : xBm bx_844 := fun dl fs i1 i2 fin hi => (m_aload (m_getr (m_aload (m_geti (m_callv hi)))))
theorem mobx_845 : xBm bx_845 := fun dl fs i1 i2 fin hi => (m_iret hi)
theorem mobx_846 : xBm bx_846 := fun dl fs i1 i2 fin hi => (m_aload (m_obj (m_aload (m_iconst (m_newa (m_putr (m_aload (m_iconst (m_newa (m_putr (m_aload (m_iconst (m_newa (m_putr (m_aload (m_iconst (m_newa (m_putr (m_aload (m_iconst (m_newa (m_putr (m_xgo hi)))))))))))))))))))))))
theorem mobx_847 : xBm bx_847 := fun dl fs i1 i2 fin hi => (m_aload (m_obj (m_aload (m_iconst (m_newa (m_putr (m_aload (m_iconst (m_newa (m_putr (m_aload (m_iconst (m_newa (m_putr (m_aload (m_iconst (m_newa (m_putr (m_aload (m_iconst (m_newa (m_putr (m_xgo hi)))))))))))))))))))))))
theorem mobx_848 : xBm bx_848 := fun dl fs i1 i2 fin hi => (m_aload (m_obj (m_aload (m_iconst (m_newa (m_putr (m_aload (m_iconst (m_newa (m_putr (m_aload (m_iconst (m_newa (m_putr (m_aload (m_iconst (m_iconst (m_multi (m_putr (m_aload (m_iconst (m_newa (m_xgo hi)))))))))))))))))))))))
theorem mobx_849 : xBm bx_849 := fun dl fs i1 i2 fin hi => (m_putr (m_ret hi))
theorem mobx_850 : xBm bx_850 := fun dl fs i1 i2 fin hi => (m_aload (m_obj (m_aload (m_iconst (m_newa (m_putr (m_aload (m_aload (m_putr (m_aload (m_aload (m_putr (m_aload (m_aload (m_putr (m_aload (m_aload (m_putr (m_ret hi)))))))))))))))))))
theorem mobx_851 : xBm bx_851 := fun dl fs i1 i2 fin hi => (m_aload (m_obj (m_aload (m_iconst (m_newa (m_putr (m_aload (m_iconst (m_newa (m_putr (m_aload (m_iconst (m_newa (m_putr (m_aload (m_iconst (m_newa (m_putr (m_aload (m_iconst (m_newa (m_putr (m_xgo hi)))))))))))))))))))))))
theorem mobx_852 : xBm bx_852 := fun dl fs i1 i2 fin hi => (m_aload (m_iconst (m_iconst (m_iconst (m_iconst (m_callv hi))))))
theorem mobx_853 : xBm bx_853 := fun dl fs i1 i2 fin hi => (m_aload (m_iconst (m_iconst (m_iconst (m_iconst (m_callv hi))))))
theorem mobx_854 : xBm bx_854 := fun dl fs i1 i2 fin hi => (m_aload (m_iconst (m_iconst (m_iconst (m_iconst (m_callv hi))))))
theorem mobx_855 : xBm bx_855 := fun dl fs i1 i2 fin hi => (m_aload (m_getr (m_iconst (m_iconst (m_ast (m_aload (m_getr (m_iconst (m_iconst (m_ast (m_aload (m_getr (m_iconst (m_iconst (m_ast (m_aload (m_getr (m_iconst (m_iconst (m_ast (m_aload (m_getr (m_xgo hi)))))))))))))))))))))))
theorem mobx_856 : xBm bx_856 := fun dl fs i1 i2 fin hi => (m_ast (m_ret hi))
theorem mobx_857 : xBm bx_857 := fun dl fs i1 i2 fin hi => (m_aload (m_getr (m_iload (m_iload (m_ast (m_aload (m_getr (m_iload (m_iconst (m_ast (m_aload (m_getr (m_iload (m_iload (m_ast (m_aload (m_getr (m_iload (m_iconst (m_iload (m_bin (m_ast (m_xgo hi)))))))))))))))))))))))
theorem mobx_858 : xBm bx_858 := fun dl fs i1 i2 fin hi => (m_aload (m_geti (m_if1 m_no (m_aload (m_getr (m_iconst (m_ald (m_iconst (m_if2 (m_xgo hi) m_no)))))))))
theorem mobx_859 : xBm bx_859 := fun dl fs i1 i2 fin hi => (m_aload (m_getr (m_iconst (m_ald (m_istore (m_aload (m_getr (m_iconst (m_dup2 (m_ald (m_iconst (m_bin (m_ast (m_aload (m_getr (m_iload (m_iload (m_ast (m_aload (m_getr (m_iload (m_iconst (m_xgo hi)))))))))))))))))))))))
theorem mobx_860 : xBm bx_860 := fun dl fs i1 i2 fin hi => (m_aload (m_getr (m_iconst (m_ald (m_iconst (m_if2 (m_xgo hi) m_no))))))
theorem mobx_861 : xBm bx_861 := fun dl fs i1 i2 fin hi => (m_aload (m_getr (m_iconst (m_ald (m_istore (m_aload (m_getr (m_iconst (m_dup2 (m_ald (m_iconst (m_bin (m_ast (m_aload (m_getr (m_iload (m_iload (m_ast (m_aload (m_getr (m_iload (m_iload (m_xgo hi)))))))))))))))))))))))
theorem mobx_862 : xBm bx_862 := fun dl fs i1 i2 fin hi => (m_iconst (m_ast (m_iload (m_iret hi))))
theorem mobx_863 : xBm bx_863 := fun dl fs i1 i2 fin hi => (m_ast (m_iload (m_iret hi)))
theorem mobx_864 : xBm bx_864 := fun dl fs i1 i2 fin hi => (m_aload (m_getr (m_iconst (m_ald (m_iconst (m_if2 (m_xgo hi) m_no))))))
theorem mobx_865 : xBm bx_865 := fun dl fs i1 i2 fin hi => (m_aload (m_getr (m_iconst (m_ald (m_istore (m_aload (m_getr (m_iconst (m_dup2 (m_ald (m_iconst (m_bin (m_ast (m_aload (m_getr (m_iload (m_iload (m_ast (m_aload (m_getr (m_iload (m_iload (m_xgo hi)))))))))))))))))))))))
theorem mobx_866 : xBm bx_866 := fun dl fs i1 i2 fin hi => (m_aload (m_getr (m_iconst (m_calls hi))))
theorem mobx_867 : xBm bx_867 := fun dl fs i1 i2 fin hi => (m_aload (m_getr (m_iconst (m_aload (m_getr (m_iconst (m_iconst (m_copy (m_aload (m_getr (m_iconst (m_aload (m_getr (m_iconst (m_iconst (m_copy (m_aload (m_getr (m_iconst (m_aload (m_getr (m_iconst (m_xgo hi)))))))))))))))))))))))
theorem mobx_868 : xBm bx_868 := fun dl fs i1 i2 fin hi => (m_iload (m_iconst (m_if2 (m_xgo hi) (m_iconst (m_iret hi)))))
theorem mobx_869 : xBm bx_869 := fun dl fs i1 i2 fin hi => (m_iload (m_iconst (m_if2 (m_xgo hi) (m_aload (m_getr (m_iload (m_iconst (m_bin (m_ald (m_xgo hi))))))))))
theorem mobx_870 : xBm bx_870 := fun dl fs i1 i2 fin hi => (m_iconst (m_iret hi))
theorem mobx_871 : xBm bx_871 := fun dl fs i1 i2 fin hi => (m_iret hi)
theorem mobx_872 : xBm bx_872 := fun dl fs i1 i2 fin hi => (m_iconst (m_iload (m_iconst (m_bin (m_bin (m_iload (m_bin (m_iret hi))))))))
theorem mobx_873 : xBm bx_873 := fun dl fs i1 i2 fin hi => (m_aload (m_getr (m_iconst (m_aload (m_getr (m_iconst (m_iconst (m_copy (m_aload (m_getr (m_iconst (m_aload (m_getr (m_iconst (m_iconst (m_copy (m_aload (m_aload (m_getr (m_iconst (m_ald (m_puti (m_xgo hi)))))))))))))))))))))))
theorem mobx_874 : xBm bx_874 := fun dl fs i1 i2 fin hi => (m_aload (m_getr (m_astore (m_aload (m_aload (m_getr (m_putr (m_aload (m_aload (m_putr (m_aload (m_aload (m_getr (m_iconst (m_ald (m_puti (m_aload (m_aload (m_getr (m_iconst (m_ald (m_puti (m_xgo hi)))))))))))))))))))))))
theorem mobx_875 : xBm bx_875 := fun dl fs i1 i2 fin hi => (m_aload (m_obj (m_aload (m_iconst (m_newa (m_putr (m_aload (m_iconst (m_newa (m_putr (m_aload (m_iconst (m_newa (m_putr (m_aload (m_iconst (m_newa (m_putr (m_aload (m_iconst (m_newa (m_putr (m_xgo hi)))))))))))))))))))))))
theorem mobx_876 : xBm bx_876 := fun dl fs i1 i2 fin hi => (m_aload (m_getr (m_iconst (m_iconst (m_iconst (m_iconst (m_callv hi)))))))
theorem mobx_877 : xBm bx_877 := fun dl fs i1 i2 fin hi => (m_istore (m_aload (m_getr (m_getr (m_iload (m_iload (m_ast (m_iload (m_if1 (m_xgo hi) (m_aload (m_getr (m_getr (m_iload (m_iload (m_ast (m_xgo hi))))))))))))))))
theorem mobx_878 : xBm bx_878 := fun dl fs i1 i2 fin hi => (m_aload (m_getr (m_getr (m_iload (m_iload (m_ast (m_aload (m_getr (m_getr (m_iload (m_dup2 (m_ald (m_iconst (m_bin (m_ast (m_iload (m_iret hi)))))))))))))))))
theorem mobx_879 : xBm bx_879 := fun dl fs i1 i2 fin hi => (m_aload (m_getr (m_getr (m_iload (m_dup2 (m_ald (m_iconst (m_bin (m_ast (m_iload (m_iret hi)))))))))))
theorem mobx_880 : xBm bx_880 := fun dl fs i1 i2 fin hi => (m_aload (m_geti (m_iconst (m_if2 (m_xgo hi) m_no))))
theorem mobx_881 : xBm bx_881 := fun dl fs i1 i2 fin hi => (m_aload (m_geti (m_iconst (m_bin (m_istore (m_aload (m_getr (m_iload (m_iload (m_ast (m_aload (m_getr (m_iload (m_iconst (m_bin (m_iload (m_ast (m_aload (m_getr (m_iload (m_iconst (m_bin (m_xgo hi)))))))))))))))))))))))
theorem mobx_882 : xBm bx_882 := fun dl fs i1 i2 fin hi => (m_aload (m_getr (m_getr (m_iload (m_ald (m_if1 (m_xgo hi) m_no))))))
theorem mobx_883 : xBm bx_883 := fun dl fs i1 i2 fin hi => (m_aload (m_getr (m_iconst (m_iconst (m_aload (m_getr (m_getr (m_iload (m_ald (m_iload (m_callv hi)))))))))))
theorem mobx_884 : xBm bx_884 := fun dl fs i1 i2 fin hi => (m_istore (m_aload (m_geti (m_if1 (m_xgo hi) (m_aload (m_iload (m_puti (m_xgo hi))))))))
theorem mobx_885 : xBm bx_885 := fun dl fs i1 i2 fin hi => (m_aload (m_getr (m_getr (m_aload (m_geti (m_iload (m_ast (m_aload (m_iload (m_puti (m_ret hi)))))))))))
theorem mobx_886 : xBm bx_886 := fun dl fs i1 i2 fin hi => (m_aload (m_iload (m_puti (m_ret hi))))
theorem mobx_887 : xBm bx_887 := fun dl fs i1 i2 fin hi => (m_iconst (m_istore (m_aload (m_getr (m_getr (m_iload (m_ald (m_istore (m_xgo hi)))))))))
theorem mobx_888 : xBm bx_888 := fun dl fs i1 i2 fin hi => (m_iload (m_aload (m_getr (m_getr (m_iload (m_ald (m_if2 (m_xgo hi) (m_iload (m_aload (m_getr (m_getr (m_iload (m_ald (m_iconst (m_if2 (m_xgo hi) (m_iconst (m_xgo hi)))))))))))))))))
theorem mobx_889 : xBm bx_889 := fun dl fs i1 i2 fin hi => (m_iconst (m_bin (m_istore (m_iinc (m_xgo hi)))))
theorem mobx_890 : xBm bx_890 := fun dl fs i1 i2 fin hi => (m_bin (m_istore (m_iinc (m_xgo hi))))
theorem mobx_891 : xBm bx_891 := fun dl fs i1 i2 fin hi => (m_iload (m_iret hi))
theorem mobx_892 : xBm bx_892 := fun dl fs i1 i2 fin hi => (m_iload (m_iconst (m_bin (m_istore (m_iload (m_iload (m_if2 (m_xgo hi) (m_iconst (m_istore (m_iconst (m_istore (m_aload (m_iload (m_callv hi))))))))))))))
theorem mobx_893 : xBm bx_893 := fun dl fs i1 i2 fin hi => (m_iload (m_iload (m_if2 (m_xgo hi) (m_iconst (m_istore (m_iconst (m_istore (m_aload (m_iload (m_callv hi))))))))))
theorem mobx_894 : xBm bx_894 := fun dl fs i1 i2 fin hi => (m_if1 (m_xgo hi) (m_aload (m_getr (m_getr (m_iload (m_ald (m_xgo hi)))))))
theorem mobx_895 : xBm bx_895 := fun dl fs i1 i2 fin hi => (m_iconst (m_istore (m_iload (m_if1 (m_xgo hi) (m_iload (m_if1 m_no (m_aload (m_getr (m_getr (m_iload (m_ald (m_iconst (m_if2 m_no (m_iconst (m_xgo hi)))))))))))))))
theorem mobx_896 : xBm bx_896 := fun dl fs i1 i2 fin hi => (m_istore (m_iload (m_if1 (m_xgo hi) (m_iload (m_if1 m_no (m_aload (m_getr (m_getr (m_iload (m_ald (m_iconst (m_if2 m_no (m_iconst (m_xgo hi))))))))))))))
theorem mobx_897 : xBm bx_897 := fun dl fs i1 i2 fin hi => (m_iload (m_if1 (m_xgo hi) (m_iload (m_if1 m_no (m_aload (m_getr (m_getr (m_iload (m_ald (m_iconst (m_if2 m_no (m_iconst (m_xgo hi)))))))))))))
theorem mobx_898 : xBm bx_898 := fun dl fs i1 i2 fin hi => (m_istore (m_iload (m_if1 (m_xgo hi) (m_aload (m_getr (m_getr (m_iload (m_ald (m_iconst (m_if2 m_no (m_xgo hi)))))))))))
theorem mobx_899 : xBm bx_899 := fun dl fs i1 i2 fin hi => (m_iconst (m_xgo hi))
theorem mobx_900 : xBm bx_900 := fun dl fs i1 i2 fin hi => (m_istore (m_aload (m_getr (m_getr (m_iload (m_ald (m_istore (m_xgo hi))))))))
theorem mobx_901 : xBm bx_901 := fun dl fs i1 i2 fin hi => (m_iconst (m_istore (m_aload (m_getr (m_getr (m_iload (m_ald (m_table (And.intro (m_xgo hi) (And.intro (m_xgo hi) (And.intro (m_xgo hi) (And.intro (m_xgo hi) True.intro)))) (m_xgo hi)))))))))
theorem mobx_902 : xBm bx_902 := fun dl fs i1 i2 fin hi => (m_aload (m_getr (m_getr (m_aload (m_getr (m_getr (m_aload (m_getr (m_getr (m_iload (m_ald (m_ald (m_ald (m_iconst (m_if2 m_no (m_iconst (m_xgo hi)))))))))))))))))
theorem mobx_903 : xBm bx_903 := fun dl fs i1 i2 fin hi => (m_istore (m_xgo hi))
theorem mobx_904 : xBm bx_904 := fun dl fs i1 i2 fin hi => (m_aload (m_getr (m_getr (m_aload (m_getr (m_getr (m_aload (m_getr (m_getr (m_iload (m_ald (m_ald (m_ald (m_iconst (m_bin (m_istore (m_iload (m_if1 (m_xgo hi) (m_aload (m_getr (m_getr (m_iload (m_xgo hi)))))))))))))))))))))))
theorem mobx_905 : xBm bx_905 := fun dl fs i1 i2 fin hi => (m_iconst (m_istore (m_xgo hi)))
theorem mobx_906 : xBm bx_906 := fun dl fs i1 i2 fin hi => (m_istore (m_xgo hi))
theorem mobx_907 : xBm bx_907 := fun dl fs i1 i2 fin hi => (m_iload (m_istore (m_xgo hi)))
theorem mobx_908 : xBm bx_908 := fun dl fs i1 i2 fin hi => (m_aload (m_getr (m_getr (m_iload (m_iload (m_if1 (m_xgo hi) (m_iconst (m_xgo hi))))))))
theorem mobx_909 : xBm bx_909 := fun dl fs i1 i2 fin hi => (m_iconst (m_ast (m_iinc (m_xgo hi))))
theorem mobx_910 : xBm bx_910 := fun dl fs i1 i2 fin hi => (m_ast (m_iinc (m_xgo hi)))
theorem mobx_911 : xBm bx_911 := fun dl fs i1 i2 fin hi => (m_aload (m_getr (m_getr (m_iload (m_ald (m_iconst (m_if2 (m_xgo hi) (m_iconst (m_xgo hi)))))))))
theorem mobx_912 : xBm bx_912 := fun dl fs i1 i2 fin hi => (m_iconst (m_zret hi))
theorem mobx_913 : xBm bx_913 := fun dl fs i1 i2 fin hi => (m_zret hi)
theorem mobx_914 : xBm bx_914 := fun dl fs i1 i2 fin hi => (m_iconst (m_istore (m_aload (m_getr (m_getr (m_iconst (m_ald (m_istore (m_xgo hi)))))))))
theorem mobx_915 : xBm bx_915 := fun dl fs i1 i2 fin hi => (m_iload (m_aload (m_getr (m_getr (m_iconst (m_ald (m_if2 (m_xgo hi) (m_iload (m_if1 (m_xgo hi) (m_iconst (m_istore (m_aload (m_getr (m_getr (m_iconst (m_ald (m_istore (m_xgo hi))))))))))))))))))
theorem mobx_916 : xBm bx_916 := fun dl fs i1 i2 fin hi => (m_iload (m_aload (m_getr (m_getr (m_iconst (m_ald (m_if2 (m_xgo hi) (m_aload (m_getr (m_getr (m_iload (m_ald (m_if1 (m_xgo hi) (m_aload (m_getr (m_getr (m_iload (m_ald (m_if1 (m_xgo hi) (m_aload (m_iload (m_callv hi))))))))))))))))))))))
theorem mobx_917 : xBm bx_917 := fun dl fs i1 i2 fin hi => (m_if1 (m_xgo hi) (m_aload (m_getr (m_getr (m_iload (m_iconst (m_ast (m_iconst (m_istore (m_xgo hi))))))))))
theorem mobx_918 : xBm bx_918 := fun dl fs i1 i2 fin hi => (m_iinc (m_xgo hi))
theorem mobx_919 : xBm bx_919 := fun dl fs i1 i2 fin hi => (m_iinc (m_xgo hi))
theorem mobx_920 : xBm bx_920 := fun dl fs i1 i2 fin hi => (m_ret hi)
theorem mobx_921 : xBm bx_921 := fun dl fs i1 i2 fin hi => (m_aload (m_getr (m_getr (m_iload (m_ald (m_iconst (m_if2 (m_xgo hi) (m_aload (m_getr (m_getr (m_iload (m_ald (m_iconst (m_if2 (m_xgo hi) (m_xgo hi)))))))))))))))
theorem mobx_922 : xBm bx_922 := fun dl fs i1 i2 fin hi => (m_iconst (m_xgo hi))
theorem mobx_923 : xBm bx_923 := fun dl fs i1 i2 fin hi => (m_iconst (m_zret hi))
theorem mobx_924 : xBm bx_924 := fun dl fs i1 i2 fin hi => (m_zret hi)
theorem mobx_925 : xBm bx_925 := fun dl fs i1 i2 fin hi => (m_aload (m_iload (m_callv hi)))
theorem mobx_926 : xBm bx_926 := fun dl fs i1 i2 fin hi => (m_if1 (m_xgo hi) (m_iconst (m_zret hi)))
theorem mobx_927 : xBm bx_927 := fun dl fs i1 i2 fin hi => (m_iconst (m_istore (m_aload (m_getr (m_getr (m_iload (m_ald (m_istore (m_xgo hi)))))))))
theorem mobx_928 : xBm bx_928 := fun dl fs i1 i2 fin hi => (m_iload (m_if1 (m_xgo hi) (m_iload (m_aload (m_getr (m_getr (m_iload (m_ald (m_if2 (m_xgo hi) (m_aload (m_getr (m_getr (m_iload (m_ald (m_iconst (m_if2 (m_xgo hi) m_no))))))))))))))))
theorem mobx_929 : xBm bx_929 := fun dl fs i1 i2 fin hi => (m_iinc (m_iload (m_istore (m_iload (m_aload (m_getr (m_getr (m_iload (m_ald (m_if2 (m_xgo hi) (m_aload (m_getr (m_getr (m_iload (m_ald (m_istore (m_iload (m_iconst (m_if2 m_no (m_iload (m_iconst (m_if2 m_no (m_xgo hi)))))))))))))))))))))))
theorem mobx_930 : xBm bx_930 := fun dl fs i1 i2 fin hi => (m_iload (m_aload (m_getr (m_getr (m_iload (m_ald (m_if2 (m_xgo hi) (m_aload (m_getr (m_getr (m_iload (m_ald (m_istore (m_iload (m_iconst (m_if2 m_no (m_iload (m_iconst (m_if2 m_no (m_iload (m_iconst (m_if2 (m_xgo hi) (m_xgo hi)))))))))))))))))))))))
theorem mobx_931 : xBm bx_931 := fun dl fs i1 i2 fin hi => (m_iinc (m_xgo hi))
theorem mobx_932 : xBm bx_932 := fun dl fs i1 i2 fin hi => (m_aload (m_getr (m_getr (m_iload (m_ald (m_istore (m_xgo hi)))))))
theorem mobx_933 : xBm bx_933 := fun dl fs i1 i2 fin hi => (m_iconst (m_zret hi))
theorem mobx_934 : xBm bx_934 := fun dl fs i1 i2 fin hi => (m_aload (m_getr (m_iload (m_ald (m_istore (m_aload (m_getr (m_iload (m_iconst (m_bin (m_ald (m_istore (m_aload (m_getr (m_iload (m_iconst (m_bin (m_ald (m_istore (m_aload (m_getr (m_iload (m_xgo hi)))))))))))))))))))))))
theorem mobx_935 : xBm bx_935 := fun dl fs i1 i2 fin hi => (m_istore (m_aload (m_getr (m_getr (m_iload (m_iload (m_if1 (m_xgo hi) m_no)))))))
theorem mobx_936 : xBm bx_936 := fun dl fs i1 i2 fin hi => (m_iconst (m_ast (m_aload (m_getr (m_getr (m_iload (m_iload (m_ast (m_aload (m_geti (m_istore (m_iload (m_istore (m_iconst (m_istore (m_iconst (m_istore (m_iload (m_istore (m_xgo hi))))))))))))))))))))
theorem mobx_937 : xBm bx_937 := fun dl fs i1 i2 fin hi => (m_iload (m_iload (m_if2 (m_xgo hi) (m_aload (m_geti (m_if1 (m_xgo hi) (m_iload (m_istore (m_aload (m_iload (m_iload (m_iload (m_callv hi)))))))))))))
theorem mobx_938 : xBm bx_938 := fun dl fs i1 i2 fin hi => (m_istore (m_iload (m_istore (m_iload (m_iload (m_if2 (m_xgo hi) (m_aload (m_getr (m_iload (m_ald (m_iload (m_if2 (m_xgo hi) (m_aload (m_getr (m_iload (m_aload (m_getr (m_iload (m_ald (m_ast (m_iinc (m_xgo hi))))))))))))))))))))))
theorem mobx_939 : xBm bx_939 := fun dl fs i1 i2 fin hi => (m_iload (m_iload (m_if2 (m_xgo hi) (m_aload (m_getr (m_iload (m_ald (m_iload (m_if2 (m_xgo hi) (m_aload (m_getr (m_iload (m_aload (m_getr (m_iload (m_ald (m_ast (m_iinc (m_xgo hi)))))))))))))))))))
theorem mobx_940 : xBm bx_940 := fun dl fs i1 i2 fin hi => (m_iinc (m_xgo hi))
theorem mobx_941 : xBm bx_941 := fun dl fs i1 i2 fin hi => (m_aload (m_iload (m_iload (m_iload (m_if1 (m_xgo hi) m_no)))))
theorem mobx_942 : xBm bx_942 := fun dl fs i1 i2 fin hi => (m_iload (m_callv hi))
theorem mobx_943 : xBm bx_943 := fun dl fs i1 i2 fin hi => (m_istore (m_aload (m_iload (m_iload (m_if1 (m_xgo hi) m_no)))))
theorem mobx_944 : xBm bx_944 := fun dl fs i1 i2 fin hi => (m_aload (m_getr (m_getr (m_iload (m_ald (m_iload (m_iload (m_iload (m_callv hi)))))))))
theorem mobx_945 : xBm bx_945 := fun dl fs i1 i2 fin hi => (m_istore (m_aload (m_iload (m_iload (m_iload (m_iload (m_iload (m_callv hi))))))))
theorem mobx_946 : xBm bx_946 := fun dl fs i1 i2 fin hi => (m_iload (m_istore (m_xgo hi)))
theorem mobx_947 : xBm bx_947 := fun dl fs i1 i2 fin hi => (m_aload (m_getr (m_iload (m_aload (m_getr (m_iload (m_iload (m_iload (m_bin (m_copy (m_aload (m_getr (m_iload (m_aload (m_getr (m_iload (m_iload (m_iload (m_bin (m_copy (m_iload (m_istore (m_xgo hi)))))))))))))))))))))))
theorem mobx_948 : xBm bx_948 := fun dl fs i1 i2 fin hi => (m_iload (m_aload (m_geti (m_if2 (m_xgo hi) (m_aload (m_getr (m_iload (m_iconst (m_bin (m_iconst (m_bin (m_dup2 (m_ald (m_iload (m_iload (m_bin (m_bin (m_ast (m_aload (m_getr (m_iload (m_iconst (m_xgo hi)))))))))))))))))))))))
theorem mobx_949 : xBm bx_949 := fun dl fs i1 i2 fin hi => (m_ret hi)
theorem mobx_950 : xBm bx_950 := fun dl fs i1 i2 fin hi => (m_aload (m_iconst (m_putz (m_iload (m_istore (m_iload (m_iload (m_if2 (m_xgo hi) (m_aload (m_getr (m_getr (m_iload (m_ald (m_iconst (m_if2 m_no (m_aload (m_getr (m_getr (m_iload (m_ald (m_iconst (m_if2 m_no (m_xgo hi)))))))))))))))))))))))
theorem mobx_951 : xBm bx_951 := fun dl fs i1 i2 fin hi => (m_iload (m_iload (m_if2 (m_xgo hi) (m_aload (m_getr (m_getr (m_iload (m_ald (m_iconst (m_if2 m_no (m_aload (m_getr (m_getr (m_iload (m_ald (m_iconst (m_if2 m_no (m_xgo hi))))))))))))))))))
theorem mobx_952 : xBm bx_952 := fun dl fs i1 i2 fin hi => (m_iinc (m_xgo hi))
theorem mobx_953 : xBm bx_953 := fun dl fs i1 i2 fin hi => (m_ret hi)
theorem mobx_954 : xBm bx_954 := fun dl fs i1 i2 fin hi => (m_aload (m_iconst (m_puti (m_iconst (m_istore (m_aload (m_getr (m_getr (m_iload (m_ald (m_istore (m_xgo hi))))))))))))
theorem mobx_955 : xBm bx_955 := fun dl fs i1 i2 fin hi => (m_iload (m_if1 (m_xgo hi) (m_iload (m_aload (m_getr (m_getr (m_iload (m_ald (m_if2 (m_xgo hi) (m_aload (m_getr (m_getr (m_iload (m_ald (m_iconst (m_if2 (m_xgo hi) (m_iload (m_iconst (m_if2 (m_xgo hi) (m_aload (m_getr (m_getr (m_xgo hi)))))))))))))))))))))))
theorem mobx_956 : xBm bx_956 := fun dl fs i1 i2 fin hi => (m_ast (m_aload (m_getr (m_iload (m_iload (m_ast (m_iinc (m_aload (m_getr (m_getr (m_iload (m_ald (m_istore (m_xgo hi))))))))))))))
theorem mobx_957 : xBm bx_957 := fun dl fs i1 i2 fin hi => (m_aload (m_getr (m_getr (m_iload (m_aload (m_iload (m_aload (m_getr (m_getr (m_iload (m_ald (m_callv hi))))))))))))
theorem mobx_958 : xBm bx_958 := fun dl fs i1 i2 fin hi => (m_ast (m_aload (m_getr (m_getr (m_iload (m_aload (m_getr (m_geti (m_ast (m_aload (m_getr (m_getr (m_iload (m_aload (m_aload (m_getr (m_getr (m_iload (m_ald (m_aload (m_getr (m_geti (m_xgo hi)))))))))))))))))))))))
theorem mobx_959 : xBm bx_959 := fun dl fs i1 i2 fin hi => (m_ast (m_ret hi))
theorem mobx_960 : xBm bx_960 := fun dl fs i1 i2 fin hi => (m_aload (m_getr (m_getr (m_iload (m_iconst (m_ast (m_aload (m_getr (m_getr (m_iload (m_aload (m_getr (m_iload (m_iconst (m_bin (m_ald (m_ast (m_aload (m_getr (m_getr (m_iload (m_iload (m_xgo hi)))))))))))))))))))))))
theorem mobx_961 : xBm bx_961 := fun dl fs i1 i2 fin hi => (m_aload (m_iload (m_aload (m_getr (m_geti (m_callv hi))))))
theorem mobx_962 : xBm bx_962 := fun dl fs i1 i2 fin hi => (m_aload (m_getr (m_getr (m_iconst (m_ald (m_istore (m_iload (m_aload (m_getr (m_getr (m_iconst (m_ald (m_if2 (m_xgo hi) (m_aload (m_getr (m_getr (m_iload (m_ald (m_if1 (m_xgo hi) (m_aload (m_iload (m_callv hi))))))))))))))))))))))
theorem mobx_963 : xBm bx_963 := fun dl fs i1 i2 fin hi => (m_iload (m_aload (m_getr (m_getr (m_iconst (m_ald (m_if2 (m_xgo hi) (m_aload (m_getr (m_getr (m_iload (m_ald (m_if1 (m_xgo hi) (m_aload (m_iload (m_callv hi))))))))))))))))
theorem mobx_964 : xBm bx_964 := fun dl fs i1 i2 fin hi => (m_iinc (m_xgo hi))
theorem mobx_965 : xBm bx_965 := fun dl fs i1 i2 fin hi => (m_aload (m_callv hi))
theorem mobx_966 : xBm bx_966 := fun dl fs i1 i2 fin hi => (m_ret hi)
theorem mobx_967 : xBm bx_967 := fun dl fs i1 i2 fin hi => (m_aload (m_getr (m_iload (m_iconst (m_bin (m_ald (m_istore (m_aload (m_getr (m_iload (m_iconst (m_bin (m_ald (m_istore (m_iconst (m_istore (m_aload (m_getr (m_iload (m_iconst (m_bin (m_ald (m_xgo hi)))))))))))))))))))))))
theorem mobx_968 : xBm bx_968 := fun dl fs i1 i2 fin hi => (m_iload (m_aload (m_getr (m_iload (m_iconst (m_bin (m_ald (m_if2 (m_xgo hi) (m_iconst (m_istore (m_iload (m_istore (m_xgo hi)))))))))))))
theorem mobx_969 : xBm bx_969 := fun dl fs i1 i2 fin hi => (m_iload (m_iload (m_if2 (m_xgo hi) (m_iload (m_aload (m_aload (m_getr (m_iload (m_ald (m_aload (m_getr (m_iload (m_ald (m_callv hi))))))))))))))
theorem mobx_970 : xBm bx_970 := fun dl fs i1 i2 fin hi => (m_if1 (m_xgo hi) (m_iconst (m_xgo hi)))
theorem mobx_971 : xBm bx_971 := fun dl fs i1 i2 fin hi => (m_iconst (m_bin (m_istore (m_iinc (m_xgo hi)))))
theorem mobx_972 : xBm bx_972 := fun dl fs i1 i2 fin hi => (m_bin (m_istore (m_iinc (m_xgo hi))))
theorem mobx_973 : xBm bx_973 := fun dl fs i1 i2 fin hi => (m_iload (m_if1 (m_xgo hi) (m_iload (m_iload (m_iload (m_bin (m_if2 (m_xgo hi) (m_aload (m_iload (m_aload (m_getr (m_iload (m_ald (m_callv hi))))))))))))))
theorem mobx_974 : xBm bx_974 := fun dl fs i1 i2 fin hi => (m_ret hi)
theorem mobx_975 : xBm bx_975 := fun dl fs i1 i2 fin hi => (m_iload (m_if1 (m_xgo hi) m_no))
theorem mobx_976 : xBm bx_976 := fun dl fs i1 i2 fin hi => (m_iinc (m_xgo hi))
theorem mobx_977 : xBm bx_977 := fun dl fs i1 i2 fin hi => (m_aload (m_iload (m_iload (m_callv hi))))
theorem mobx_978 : xBm bx_978 := fun dl fs i1 i2 fin hi => (m_ret hi)
theorem mobx_979 : xBm bx_979 := fun dl fs i1 i2 fin hi => (m_aload (m_getr (m_iload (m_ald (m_istore (m_aload (m_getr (m_iload (m_iconst (m_bin (m_ald (m_istore (m_aload (m_getr (m_iload (m_iconst (m_bin (m_ald (m_istore (m_aload (m_getr (m_iload (m_xgo hi)))))))))))))))))))))))
theorem mobx_980 : xBm bx_980 := fun dl fs i1 i2 fin hi => (m_ret hi)
theorem mobx_981 : xBm bx_981 := fun dl fs i1 i2 fin hi => (m_aload (m_getr (m_getr (m_iload (m_iconst (m_ast (m_iload (m_iload (m_bin (m_istore (m_iconst (m_istore (m_iload (m_istore (m_iload (m_istore (m_xgo hi)))))))))))))))))
theorem mobx_982 : xBm bx_982 := fun dl fs i1 i2 fin hi => (m_iload (m_iload (m_if2 (m_xgo hi) (m_iload (m_iconst (m_bin (m_istore (m_iload (m_if1 (m_xgo hi) m_no)))))))))
theorem mobx_983 : xBm bx_983 := fun dl fs i1 i2 fin hi => (m_aload (m_iload (m_iload (m_iconst (m_callv hi)))))
theorem mobx_984 : xBm bx_984 := fun dl fs i1 i2 fin hi => (m_istore (m_iload (m_iload (m_bin (m_iconst (m_if2 (m_xgo hi) m_no))))))
theorem mobx_985 : xBm bx_985 := fun dl fs i1 i2 fin hi => (m_aload (m_getr (m_iload (m_aload (m_getr (m_iload (m_iload (m_copy (m_aload (m_iload (m_iload (m_iload (m_iload (m_iload (m_iload (m_bin (m_callv hi)))))))))))))))))
theorem mobx_986 : xBm bx_986 := fun dl fs i1 i2 fin hi => (m_iload (m_iload (m_bin (m_istore (m_iload (m_istore (m_xgo hi)))))))
theorem mobx_987 : xBm bx_987 := fun dl fs i1 i2 fin hi => (m_ret hi)
theorem mobx_988 : xBm bx_988 := fun dl fs i1 i2 fin hi => (m_aload (m_iconst (m_puti (m_aload (m_iconst (m_puti (m_aload (m_iconst (m_puti (m_aload (m_iconst (m_puti (m_iconst (m_istore (m_iload (m_istore (m_xgo hi)))))))))))))))))
theorem mobx_989 : xBm bx_989 := fun dl fs i1 i2 fin hi => (m_iload (m_if1 (m_xgo hi) (m_iinc (m_aload (m_iload (m_aload (m_iconst (m_iload (m_callv hi)))))))))
theorem mobx_990 : xBm bx_990 := fun dl fs i1 i2 fin hi => (m_iload (m_callv hi))
theorem mobx_991 : xBm bx_991 := fun dl fs i1 i2 fin hi => (m_aload (m_getr (m_getr (m_iload (m_ald (m_istore (m_xgo hi)))))))
theorem mobx_992 : xBm bx_992 := fun dl fs i1 i2 fin hi => (m_aload (m_geti (m_if1 m_no (m_aload (m_geti (m_iret hi))))))
theorem mobx_993 : xBm bx_993 := fun dl fs i1 i2 fin hi => (m_iconst (m_istore (m_iload (m_iload (m_if2 (m_xgo hi) (m_aload (m_getr (m_iload (m_iload (m_iconst (m_bin (m_ast (m_iinc (m_xgo hi))))))))))))))
theorem mobx_994 : xBm bx_994 := fun dl fs i1 i2 fin hi => (m_iload (m_iload (m_if2 (m_xgo hi) (m_aload (m_getr (m_iload (m_iload (m_iconst (m_bin (m_ast (m_iinc (m_xgo hi))))))))))))
theorem mobx_995 : xBm bx_995 := fun dl fs i1 i2 fin hi => (m_iconst (m_istore (m_iload (m_iload (m_if2 (m_xgo hi) (m_aload (m_getr (m_iload (m_aload (m_iconst (m_iload (m_iconst (m_bin (m_callv hi))))))))))))))
theorem mobx_996 : xBm bx_996 := fun dl fs i1 i2 fin hi => (m_iload (m_iload (m_if2 (m_xgo hi) (m_aload (m_getr (m_iload (m_aload (m_iconst (m_iload (m_iconst (m_bin (m_callv hi))))))))))))
theorem mobx_997 : xBm bx_997 := fun dl fs i1 i2 fin hi => (m_ast (m_iinc (m_xgo hi)))
theorem mobx_998 : xBm bx_998 := fun dl fs i1 i2 fin hi => (m_aload (m_getr (m_iconst (m_iconst (m_iconst (m_iconst (m_callv hi)))))))
theorem mobx_999 : xBm bx_999 := fun dl fs i1 i2 fin hi => (m_istore (m_aload (m_iconst (m_puti (m_aload (m_iload (m_iconst (m_iload (m_iconst (m_iload (m_callv hi)))))))))))
theorem mobx_1000 : xBm bx_1000 := fun dl fs i1 i2 fin hi => (m_iconst (m_istore (m_iload (m_iconst (m_if2 (m_xgo hi) (m_aload (m_geti (m_if1 (m_xgo hi) (m_aload (m_geti (m_if1 (m_xgo hi) (m_aload (m_dup (m_geti (m_iconst (m_bin (m_puti (m_aload (m_aload (m_geti (m_iconst (m_bin (m_xgo hi)))))))))))))))))))))))
theorem mobx_1001 : xBm bx_1001 := fun dl fs i1 i2 fin hi => (m_iload (m_iconst (m_if2 (m_xgo hi) (m_aload (m_geti (m_if1 (m_xgo hi) (m_aload (m_geti (m_if1 (m_xgo hi) (m_aload (m_dup (m_geti (m_iconst (m_bin (m_puti (m_aload (m_aload (m_geti (m_iconst (m_bin (m_callv hi)))))))))))))))))))))
theorem mobx_1002 : xBm bx_1002 := fun dl fs i1 i2 fin hi => (m_iinc (m_xgo hi))
theorem mobx_1003 : xBm bx_1003 := fun dl fs i1 i2 fin hi => (m_iload (m_iret hi))
theorem mobx_1004 : xBm bx_1004 := fun dl fs i1 i2 fin hi => (m_aload (m_getr (m_getr (m_aload (m_iload (m_iload (m_callv hi)))))))
theorem mobx_1005 : xBm bx_1005 := fun dl fs i1 i2 fin hi => (m_ald (m_istore (m_iload (m_iconst (m_if2 (m_xgo hi) (m_iload (m_iconst (m_if2 (m_xgo hi) (m_iconst (m_xgo hi))))))))))
theorem mobx_1006 : xBm bx_1006 := fun dl fs i1 i2 fin hi => (m_iconst (m_zret hi))
theorem mobx_1007 : xBm bx_1007 := fun dl fs i1 i2 fin hi => (m_zret hi)
theorem mobx_1008 : xBm bx_1008 := fun dl fs i1 i2 fin hi => (m_iload (m_istore (m_iload (m_iload (m_bin (m_iload (m_bin (m_iload (m_bin (m_iconst (m_if2 (m_xgo hi) m_no)))))))))))
theorem mobx_1009 : xBm bx_1009 := fun dl fs i1 i2 fin hi => (m_iload (m_istore (m_iload (m_iload (m_if2 (m_xgo hi) (m_aload (m_getr (m_iload (m_ald (m_iload (m_if2 (m_xgo hi) (m_aload (m_getr (m_iload (m_aload (m_getr (m_iload (m_ald (m_ast (m_iinc (m_xgo hi)))))))))))))))))))))
theorem mobx_1010 : xBm bx_1010 := fun dl fs i1 i2 fin hi => (m_iload (m_iload (m_if2 (m_xgo hi) (m_aload (m_getr (m_iload (m_ald (m_iload (m_if2 (m_xgo hi) (m_aload (m_getr (m_iload (m_aload (m_getr (m_iload (m_ald (m_ast (m_iinc (m_xgo hi)))))))))))))))))))
theorem mobx_1011 : xBm bx_1011 := fun dl fs i1 i2 fin hi => (m_aload (m_getr (m_getr (m_iload (m_ald (m_istore (m_iconst (m_istore (m_xgo hi)))))))))
theorem mobx_1012 : xBm bx_1012 := fun dl fs i1 i2 fin hi => (m_iload (m_iload (m_if2 (m_xgo hi) (m_iload (m_if1 (m_xgo hi) (m_aload (m_getr (m_iload (m_iload (m_ast (m_iinc (m_aload (m_getr (m_getr (m_iload (m_ald (m_istore (m_iinc (m_xgo hi)))))))))))))))))))
theorem mobx_1013 : xBm bx_1013 := fun dl fs i1 i2 fin hi => (m_iinc (m_xgo hi))
theorem mobx_1014 : xBm bx_1014 := fun dl fs i1 i2 fin hi => (m_iload (m_iret hi))
theorem mobx_1015 : xBm bx_1015 := fun dl fs i1 i2 fin hi => (m_iconst (m_istore (m_iload (m_istore (m_iload (m_if1 (m_xgo hi) (m_iload (m_iconst (m_if2 (m_xgo hi) (m_aload (m_getr (m_iload (m_aload (m_getr (m_getr (m_iload (m_ald (m_ast (m_iinc (m_aload (m_getr (m_getr (m_xgo hi)))))))))))))))))))))))
theorem mobx_1016 : xBm bx_1016 := fun dl fs i1 i2 fin hi => (m_iload (m_if1 (m_xgo hi) (m_iload (m_iconst (m_if2 (m_xgo hi) (m_aload (m_getr (m_iload (m_aload (m_getr (m_getr (m_iload (m_ald (m_ast (m_iinc (m_aload (m_getr (m_getr (m_iload (m_ald (m_istore (m_xgo hi))))))))))))))))))))))
theorem mobx_1017 : xBm bx_1017 := fun dl fs i1 i2 fin hi => (m_aload (m_getr (m_iload (m_iconst (m_bin (m_ald (m_istore (m_aload (m_getr (m_getr (m_iload (m_ald (m_iconst (m_if2 (m_xgo hi) m_no))))))))))))))
theorem mobx_1018 : xBm bx_1018 := fun dl fs i1 i2 fin hi => (m_aload (m_getr (m_getr (m_iload (m_ald (m_istore (m_iload (m_if1 (m_xgo hi) (m_iinc (m_iconst (m_istore (m_xgo hi))))))))))))
theorem mobx_1019 : xBm bx_1019 := fun dl fs i1 i2 fin hi => (m_iload (m_if1 (m_xgo hi) (m_iinc (m_iconst (m_istore (m_iload (m_aload (m_getr (m_iload (m_ald (m_if2 (m_xgo hi) (m_aload (m_getr (m_getr (m_iload (m_ald (m_istore (m_iinc (m_xgo hi)))))))))))))))))))
theorem mobx_1020 : xBm bx_1020 := fun dl fs i1 i2 fin hi => (m_iload (m_aload (m_getr (m_iload (m_ald (m_if2 (m_xgo hi) (m_aload (m_getr (m_getr (m_iload (m_ald (m_istore (m_iinc (m_xgo hi))))))))))))))
theorem mobx_1021 : xBm bx_1021 := fun dl fs i1 i2 fin hi => (m_aload (m_getr (m_getr (m_iload (m_ald (m_iconst (m_if2 (m_xgo hi) m_no)))))))
theorem mobx_1022 : xBm bx_1022 := fun dl fs i1 i2 fin hi => (m_iload (m_if1 (m_xgo hi) (m_aload (m_getr (m_getr (m_iload (m_ald (m_istore (m_xgo hi)))))))))
theorem mobx_1023 : xBm bx_1023 := fun dl fs i1 i2 fin hi => (m_iload (m_iret hi))
theorem mobx_1024 : xBm bx_1024 := fun dl fs i1 i2 fin hi => (m_iconst (m_istore (m_iload (m_if1 (m_xgo hi) (m_aload (m_geti (m_xgo hi)))))))
theorem mobx_1025 : xBm bx_1025 := fun dl fs i1 i2 fin hi => (m_aload (m_getr (m_getr (m_iload (m_ald (m_istore (m_iload (m_if1 (m_xgo hi) (m_aload (m_getr (m_getr (m_iload (m_ald (m_iload (m_if2 (m_xgo hi) (m_iload (m_iret hi)))))))))))))))))
theorem mobx_1026 : xBm bx_1026 := fun dl fs i1 i2 fin hi => (m_istore (m_iload (m_if1 (m_xgo hi) (m_aload (m_getr (m_getr (m_iload (m_ald (m_iload (m_if2 (m_xgo hi) (m_iload (m_iret hi))))))))))))
theorem mobx_1027 : xBm bx_1027 := fun dl fs i1 i2 fin hi => (m_iload (m_if1 (m_xgo hi) (m_aload (m_getr (m_getr (m_iload (m_ald (m_iload (m_if2 (m_xgo hi) (m_iload (m_iret hi)))))))))))
theorem mobx_1028 : xBm bx_1028 := fun dl fs i1 i2 fin hi => (m_iload (m_istore (m_aload (m_getr (m_getr (m_iload (m_ald (m_istore (m_xgo hi)))))))))
theorem mobx_1029 : xBm bx_1029 := fun dl fs i1 i2 fin hi => (m_aload (m_getr (m_iconst (m_iconst (m_iload (m_iload (m_callv hi)))))))
theorem mobx_1030 : xBm bx_1030 := fun dl fs i1 i2 fin hi => (m_istore (m_iload (m_if1 (m_xgo hi) (m_aload (m_getr (m_getr (m_iload (m_iload (m_ast (m_xgo hi))))))))))
theorem mobx_1031 : xBm bx_1031 := fun dl fs i1 i2 fin hi => (m_iload (m_if1 (m_xgo hi) (m_aload (m_getr (m_getr (m_iload (m_iload (m_ast (m_xgo hi)))))))))
theorem mobx_1032 : xBm bx_1032 := fun dl fs i1 i2 fin hi => (m_aload (m_iload (m_puti (m_iload (m_iret hi)))))
theorem mobx_1033 : xBm bx_1033 := fun dl fs i1 i2 fin hi => (m_iload (m_iret hi))
theorem mobx_1034 : xBm bx_1034 := fun dl fs i1 i2 fin hi => (m_iconst (m_istore (m_iload (m_istore (m_iload (m_iload (m_if2 (m_xgo hi) (m_aload (m_aload (m_getr (m_iload (m_ald (m_iload (m_callv hi))))))))))))))
theorem mobx_1035 : xBm bx_1035 := fun dl fs i1 i2 fin hi => (m_iload (m_iload (m_if2 (m_xgo hi) (m_aload (m_aload (m_getr (m_iload (m_ald (m_iload (m_callv hi))))))))))
theorem mobx_1036 : xBm bx_1036 := fun dl fs i1 i2 fin hi => (m_istore (m_aload (m_getr (m_getr (m_iload (m_ald (m_iconst (m_if2 (m_xgo hi) m_no))))))))
theorem mobx_1037 : xBm bx_1037 := fun dl fs i1 i2 fin hi => (m_iconst (m_istore (m_aload (m_getr (m_iload (m_aload (m_getr (m_getr (m_iload (m_ald (m_ast (m_aload (m_getr (m_iload (m_aload (m_getr (m_iload (m_ald (m_ast (m_iload (m_istore (m_iload (m_xgo hi)))))))))))))))))))))))
theorem mobx_1038 : xBm bx_1038 := fun dl fs i1 i2 fin hi => (m_iinc (m_xgo hi))
theorem mobx_1039 : xBm bx_1039 := fun dl fs i1 i2 fin hi => (m_iload (m_zret hi))
theorem mobx_1040 : xBm bx_1040 := fun dl fs i1 i2 fin hi => (m_iconst (m_istore (m_iload (m_istore (m_iload (m_iload (m_if2 (m_xgo hi) (m_aload (m_getr (m_iload (m_ald (m_iload (m_if2 (m_xgo hi) (m_iload (m_aload (m_getr (m_iload (m_ald (m_mmin (m_istore (m_xgo hi)))))))))))))))))))))
theorem mobx_1041 : xBm bx_1041 := fun dl fs i1 i2 fin hi => (m_iload (m_iload (m_if2 (m_xgo hi) (m_aload (m_getr (m_iload (m_ald (m_iload (m_if2 (m_xgo hi) (m_iload (m_aload (m_getr (m_iload (m_ald (m_mmin (m_istore (m_xgo hi)))))))))))))))))
theorem mobx_1042 : xBm bx_1042 := fun dl fs i1 i2 fin hi => (m_iinc (m_xgo hi))
theorem mobx_1043 : xBm bx_1043 := fun dl fs i1 i2 fin hi => (m_iload (m_iret hi))
theorem mobx_1044 : xBm bx_1044 := fun dl fs i1 i2 fin hi => (m_iconst (m_istore (m_aload (m_getr (m_iconst (m_iload (m_ast (m_aload (m_getr (m_iconst (m_iload (m_ast (m_iconst (m_istore (m_xgo hi)))))))))))))))
theorem mobx_1045 : xBm bx_1045 := fun dl fs i1 i2 fin hi => (m_iload (m_iconst (m_if2 (m_xgo hi) (m_iload (m_if1 (m_xgo hi) (m_iinc (m_aload (m_getr (m_iload (m_ald (m_istore (m_aload (m_getr (m_iload (m_ald (m_istore (m_aload (m_getr (m_getr (m_iload (m_ald (m_istore (m_xgo hi)))))))))))))))))))))))
theorem mobx_1046 : xBm bx_1046 := fun dl fs i1 i2 fin hi => (m_xgo hi)
theorem mobx_1047 : xBm bx_1047 := fun dl fs i1 i2 fin hi => (m_iload (m_iconst (m_if2 (m_xgo hi) m_no)))
theorem mobx_1048 : xBm bx_1048 := fun dl fs i1 i2 fin hi => (m_iload (m_iconst (m_if2 (m_xgo hi) (m_iload (m_iconst (m_if2 (m_xgo hi) (m_iload (m_if1 (m_xgo hi) m_no))))))))
theorem mobx_1049 : xBm bx_1049 := fun dl fs i1 i2 fin hi => (m_aload (m_iload (m_iload (m_iload (m_callv hi)))))
theorem mobx_1050 : xBm bx_1050 := fun dl fs i1 i2 fin hi => (m_istore (m_iinc (m_xgo hi)))
theorem mobx_1051 : xBm bx_1051 := fun dl fs i1 i2 fin hi => (m_iinc (m_xgo hi))
theorem mobx_1052 : xBm bx_1052 := fun dl fs i1 i2 fin hi => (m_ret hi)
theorem mobx_1053 : xBm bx_1053 := fun dl fs i1 i2 fin hi => (m_aload (m_getr (m_getr (m_iload (m_ald (m_iconst (m_if2 m_no (m_aload (m_getr (m_getr (m_iload (m_ald (m_xgo hi)))))))))))))
theorem mobx_1054 : xBm bx_1054 := fun dl fs i1 i2 fin hi => (m_istore (m_iload (m_iload (m_bin (m_iconst (m_if2 (m_xgo hi) m_no))))))
theorem mobx_1055 : xBm bx_1055 := fun dl fs i1 i2 fin hi => (m_aload (m_getr (m_getr (m_iload (m_ald (m_istore (m_iconst (m_istore (m_xgo hi)))))))))
theorem mobx_1056 : xBm bx_1056 := fun dl fs i1 i2 fin hi => (m_iload (m_iload (m_if2 (m_xgo hi) (m_aload (m_getr (m_iload (m_iload (m_bin (m_iload (m_bin (m_iload (m_ast (m_aload (m_getr (m_iload (m_iload (m_bin (m_iload (m_bin (m_aload (m_iload (m_iload (m_xgo hi)))))))))))))))))))))))
theorem mobx_1057 : xBm bx_1057 := fun dl fs i1 i2 fin hi => (m_ast (m_aload (m_getr (m_getr (m_iload (m_ald (m_istore (m_iinc (m_xgo hi)))))))))
theorem mobx_1058 : xBm bx_1058 := fun dl fs i1 i2 fin hi => (m_iload (m_iload (m_bin (m_iret hi))))
theorem mobx_1059 : xBm bx_1059 := fun dl fs i1 i2 fin hi => (m_aload (m_callt hi))
theorem mobx_1060 : xBm bx_1060 := fun dl fs i1 i2 fin hi => (m_if1 m_no (m_aload (m_tval (m_iload (m_calls hi)))))
theorem mobx_1061 : xBm bx_1061 := fun dl fs i1 i2 fin hi => (m_cret hi)
theorem mobx_1062 : xBm bx_1062 := fun dl fs i1 i2 fin hi => (m_iconst (m_if1 m_no (m_aload (m_tcod (m_xgo hi)))))
theorem mobx_1063 : xBm bx_1063 := fun dl fs i1 i2 fin hi => (m_bret hi)
theorem mobx_1064 : xBm bx_1064 := fun dl fs i1 i2 fin hi => (m_aload (m_iload (m_iconst (m_callt hi))))
theorem mobx_1065 : xBm bx_1065 := fun dl fs i1 i2 fin hi => (m_iret hi)
theorem mobx_1066 : xBm bx_1066 := fun dl fs i1 i2 fin hi => (m_aload (m_callt hi))
theorem mobx_1067 : xBm bx_1067 := fun dl fs i1 i2 fin hi => (m_if1 m_no (m_aload (m_tval (m_iload (m_iload (m_aload (m_callt hi)))))))
theorem mobx_1068 : xBm bx_1068 := fun dl fs i1 i2 fin hi => (m_calls hi)
theorem mobx_1069 : xBm bx_1069 := fun dl fs i1 i2 fin hi => (m_xgo hi)
theorem mobx_1070 : xBm bx_1070 := fun dl fs i1 i2 fin hi => (m_iret hi)
theorem mobx_1071 : xBm bx_1071 := fun dl fs i1 i2 fin hi => (m_iconst (m_if1 m_no (m_aload (m_tcod (m_if1 m_no (m_iconst (m_xgo hi)))))))
theorem mobx_1072 : xBm bx_1072 := fun dl fs i1 i2 fin hi => (m_zret hi)
theorem mobx_1073 : xBm bx_1073 := fun dl fs i1 i2 fin hi => (m_aload (m_tval (m_tlen (m_aload (m_callt hi)))))
theorem mobx_1074 : xBm bx_1074 := fun dl fs i1 i2 fin hi => (m_ishr (m_iret hi))
theorem mobx_1075 : xBm bx_1075 := fun dl fs i1 i2 fin hi => (m_iload (m_if1 m_no (m_iload (m_iconst (m_if2 m_no (m_iconst (m_xgo hi)))))))
theorem mobx_1076 : xBm bx_1076 := fun dl fs i1 i2 fin hi => (m_zret hi)
theorem mobx_1077 : xBm bx_1077 := fun dl fs i1 i2 fin hi => (m_iload (m_aload (m_tlen (m_ckix (m_aload (m_iload (m_tald (m_iconst (m_bin (m_un (m_cret hi)))))))))))
theorem mobx_1078 : xBm bx_1078 := fun dl fs i1 i2 fin hi => (m_iload (m_calls hi))
theorem mobx_1079 : xBm bx_1079 := fun dl fs i1 i2 fin hi => (m_if1 (m_xgo hi) m_no)
theorem mobx_1080 : xBm bx_1080 := fun dl fs i1 i2 fin hi => (m_iload (m_iconst (m_mmax (m_istore (m_iload (m_aload (m_tlen (m_mmin (m_istore (m_iload (m_iload (m_if2 (m_xgo hi) m_no))))))))))))
theorem mobx_1081 : xBm bx_1081 := fun dl fs i1 i2 fin hi => (m_aload (m_iload (m_iload (m_iload (m_calls hi)))))
theorem mobx_1082 : xBm bx_1082 := fun dl fs i1 i2 fin hi => (m_iret hi)
theorem mobx_1083 : xBm bx_1083 := fun dl fs i1 i2 fin hi => (m_iload (m_un (m_istore (m_iload (m_istore (m_iload (m_iload (m_if2 (m_xgo hi) (m_aload (m_iload (m_tald (m_iload (m_if2 (m_xgo hi) (m_iload (m_iret hi)))))))))))))))
theorem mobx_1084 : xBm bx_1084 := fun dl fs i1 i2 fin hi => (m_iload (m_iload (m_if2 (m_xgo hi) (m_aload (m_iload (m_tald (m_iload (m_if2 (m_xgo hi) (m_iload (m_iret hi))))))))))
theorem mobx_1085 : xBm bx_1085 := fun dl fs i1 i2 fin hi => (m_iinc (m_xgo hi))
theorem mobx_1086 : xBm bx_1086 := fun dl fs i1 i2 fin hi => (m_iconst (m_iret hi))
theorem mobx_1087 : xBm bx_1087 := fun dl fs i1 i2 fin hi => (m_iconst (m_istore (m_aload (m_alen (m_istore (m_iload (m_iload (m_if2 (m_xgo hi) (m_aload (m_iload (m_iload (m_ast (m_iinc (m_xgo hi))))))))))))))
theorem mobx_1088 : xBm bx_1088 := fun dl fs i1 i2 fin hi => (m_iload (m_iload (m_if2 (m_xgo hi) (m_aload (m_iload (m_iload (m_ast (m_iinc (m_xgo hi)))))))))
theorem mobx_1089 : xBm bx_1089 := fun dl fs i1 i2 fin hi => (m_ret hi)
theorem mobx_1090 : xBm bx_1090 := fun dl fs i1 i2 fin hi => (m_aload (m_alen (m_iload (m_iload (m_calls hi)))))
theorem mobx_1091 : xBm bx_1091 := fun dl fs i1 i2 fin hi => (m_iload (m_istore (m_iload (m_iload (m_if2 (m_xgo hi) (m_aload (m_iload (m_lload (m_last (m_iinc (m_xgo hi)))))))))))
theorem mobx_1092 : xBm bx_1092 := fun dl fs i1 i2 fin hi => (m_iload (m_iload (m_if2 (m_xgo hi) (m_aload (m_iload (m_lload (m_last (m_iinc (m_xgo hi)))))))))
theorem mobx_1093 : xBm bx_1093 := fun dl fs i1 i2 fin hi => (m_ret hi)
theorem mobx_1094 : xBm bx_1094 := fun dl fs i1 i2 fin hi => (m_iload (m_iload (m_if2 (m_xgo hi) m_no)))
theorem mobx_1095 : xBm bx_1095 := fun dl fs i1 i2 fin hi => (m_iload (m_if1 (m_xgo hi) m_no))
theorem mobx_1096 : xBm bx_1096 := fun dl fs i1 i2 fin hi => (m_iload (m_iload (m_if2 (m_xgo hi) m_no)))
theorem mobx_1097 : xBm bx_1097 := fun dl fs i1 i2 fin hi => (m_ret hi)
theorem mobx_1098 : xBm bx_1098 := fun dl fs i1 i2 fin hi => (m_iload (m_if1 (m_xgo hi) (m_aload (m_getr (m_iload (m_callv hi))))))
theorem mobx_1099 : xBm bx_1099 := fun dl fs i1 i2 fin hi => (m_iload (m_if1 (m_xgo hi) (m_aload (m_getr (m_aload (m_getr (m_geti (m_callv hi))))))))
theorem mobx_1100 : xBm bx_1100 := fun dl fs i1 i2 fin hi => (m_iload (m_if1 m_no (m_aload (m_getr (m_callv hi)))))
theorem mobx_1101 : xBm bx_1101 := fun dl fs i1 i2 fin hi => (m_aload (m_iconst (m_newa (m_putr (m_aload (m_iconst (m_newa (m_putr (m_aload (m_aload (m_putr (m_aload (m_aload (m_putr (m_ret hi)))))))))))))))
theorem mobx_1102 : xBm bx_1102 := fun dl fs i1 i2 fin hi => (m_callv hi)
theorem mobx_1103 : xBm bx_1103 := fun dl fs i1 i2 fin hi => (m_getr (m_getr (m_iload (m_iload (m_ast (m_xgo hi))))))
theorem mobx_1104 : xBm bx_1104 := fun dl fs i1 i2 fin hi => (m_if2 m_no (m_aload (m_getr (m_getr (m_iload (m_ald (m_iconst (m_if2 (m_xgo hi) m_no))))))))
theorem mobx_1105 : xBm bx_1105 := fun dl fs i1 i2 fin hi => (m_iload (m_callv hi))
theorem mobx_1106 : xBm bx_1106 := fun dl fs i1 i2 fin hi => (m_aload (m_getr (m_getr (m_iload (m_ald (m_istore (m_xgo hi)))))))
theorem mobx_1107 : xBm bx_1107 := fun dl fs i1 i2 fin hi => (m_calls hi)
theorem mobx_1108 : xBm bx_1108 := fun dl fs i1 i2 fin hi => (m_ast (m_aload (m_getr (m_getr (m_iload (m_ald (m_istore (m_iload (m_if1 (m_xgo hi) (m_iinc (m_aload (m_getr (m_getr (m_iload (m_ald (m_iconst (m_if2 (m_xgo hi) (m_aload (m_iload (m_iload (m_callv hi)))))))))))))))))))))
theorem mobx_1109 : xBm bx_1109 := fun dl fs i1 i2 fin hi => (m_getr (m_getr (m_iload (m_iconst (m_ast (m_aload (m_getr (m_getr (m_iload (m_iload (m_ast (m_aload (m_getr (m_getr (m_iload (m_aload (m_geti (m_aload (m_getr (m_getr (m_iload (m_ald (m_xgo hi)))))))))))))))))))))))
theorem mobx_1110 : xBm bx_1110 := fun dl fs i1 i2 fin hi => (m_getr (m_iload (m_ald (m_callv hi))))
theorem mobx_1111 : xBm bx_1111 := fun dl fs i1 i2 fin hi => (m_istore (m_iload (m_if1 (m_xgo hi) m_no)))
theorem mobx_1112 : xBm bx_1112 := fun dl fs i1 i2 fin hi => (m_if1 (m_xgo hi) m_no)
theorem mobx_1113 : xBm bx_1113 := fun dl fs i1 i2 fin hi => (m_aload (m_getr (m_getr (m_iload (m_iconst (m_ast (m_aload (m_getr (m_getr (m_iload (m_aload (m_geti (m_ast (m_ret hi))))))))))))))
theorem mobx_1114 : xBm bx_1114 := fun dl fs i1 i2 fin hi => (m_iconst (m_bin (m_puti (m_aload (m_getr (m_iload (m_aload (m_geti (m_ast (m_aload (m_getr (m_getr (m_iload (m_iconst (m_ast (m_aload (m_getr (m_getr (m_iload (m_aload (m_geti (m_ast (m_xgo hi)))))))))))))))))))))))
theorem mobx_1115 : xBm bx_1115 := fun dl fs i1 i2 fin hi => (m_getr (m_aload (m_geti (m_ald (m_ast (m_xgo hi))))))
theorem mobx_1116 : xBm bx_1116 := fun dl fs i1 i2 fin hi => (m_istore (m_iload (m_if1 (m_xgo hi) (m_iload (m_iconst (m_if2 (m_xgo hi) (m_aload (m_getr (m_getr (m_iload (m_ald (m_istore (m_aload (m_getr (m_getr (m_iload (m_ald (m_istore (m_iload (m_if1 (m_xgo hi) (m_aload (m_aload (m_xgo hi)))))))))))))))))))))))
theorem mobx_1117 : xBm bx_1117 := fun dl fs i1 i2 fin hi => (m_iload (m_iconst (m_bin (m_ald (m_iload (m_callv hi))))))
theorem mobx_1118 : xBm bx_1118 := fun dl fs i1 i2 fin hi => (m_getr (m_iload (m_ald (m_callv hi))))
theorem mobx_1119 : xBm bx_1119 := fun dl fs i1 i2 fin hi => (m_getr (m_getr (m_iload (m_iconst (m_ast (m_aload (m_getr (m_getr (m_iload (m_aload (m_getr (m_iconst (m_ald (m_ast (m_aload (m_getr (m_getr (m_iload (m_aload (m_getr (m_iconst (m_ald (m_xgo hi)))))))))))))))))))))))
theorem mobx_1120 : xBm bx_1120 := fun dl fs i1 i2 fin hi => (m_getr (m_iload (m_aload (m_getr (m_iload (m_ald (m_ast (m_aload (m_getr (m_getr (m_iload (m_ald (m_iret hi)))))))))))))
theorem mobx_1121 : xBm bx_1121 := fun dl fs i1 i2 fin hi => (m_iconst (m_calls hi))
theorem mobx_1122 : xBm bx_1122 := fun dl fs i1 i2 fin hi => (m_aload (m_iconst (m_newa (m_putr (m_aload (m_iconst (m_newa (m_putr (m_aload (m_iconst (m_puti (m_ret hi))))))))))))
theorem mobx_1123 : xBm bx_1123 := fun dl fs i1 i2 fin hi => (m_iload (m_ast (m_aload (m_getr (m_iload (m_iload (m_ast (m_aload (m_getr (m_iload (m_iconst (m_ast (m_aload (m_getr (m_iload (m_iconst (m_ast (m_aload (m_getr (m_iload (m_iconst (m_ast (m_xgo hi)))))))))))))))))))))))
theorem mobx_1124 : xBm bx_1124 := fun dl fs i1 i2 fin hi => (m_aload (m_putr (m_iconst (m_istore (m_iload (m_iconst (m_if2 (m_xgo hi) (m_aload (m_getr (m_iconst (m_iload (m_bin (m_iload (m_i2l (m_iconst (m_lsh (m_last (m_iinc (m_xgo hi)))))))))))))))))))
theorem mobx_1125 : xBm bx_1125 := fun dl fs i1 i2 fin hi => (m_iload (m_callv hi))
theorem mobx_1126 : xBm bx_1126 := fun dl fs i1 i2 fin hi => (m_bin (m_istore (m_iinc (m_xgo hi))))
theorem mobx_1127 : xBm bx_1127 := fun dl fs i1 i2 fin hi => (m_iconst (m_bin (m_if2 (m_xgo hi) m_no)))
theorem mobx_1128 : xBm bx_1128 := fun dl fs i1 i2 fin hi => (m_getr (m_iconst (m_aload (m_geti (m_bin (m_iload (m_i2l (m_last (m_xgo hi)))))))))
theorem mobx_1129 : xBm bx_1129 := fun dl fs i1 i2 fin hi => (m_iload (m_aload (m_getr (m_aload (m_iload (m_callv hi))))))
theorem mobx_1130 : xBm bx_1130 := fun dl fs i1 i2 fin hi => (m_last (m_ret hi))
theorem mobx_1131 : xBm bx_1131 := fun dl fs i1 i2 fin hi => (m_aload (m_getr (m_iconst (m_aload (m_geti (m_bin (m_lald (m_iconst (m_lsh (m_l2i (m_istore (m_aload (m_iload (m_callv hi))))))))))))))
theorem mobx_1132 : xBm bx_1132 := fun dl fs i1 i2 fin hi => (m_aload (m_geti (m_bin (m_lald (m_iconst (m_lsh (m_l2i (m_istore (m_aload (m_iload (m_callv hi)))))))))))
theorem mobx_1133 : xBm bx_1133 := fun dl fs i1 i2 fin hi => (m_iload (m_iret hi))
theorem mobx_1134 : xBm bx_1134 := fun dl fs i1 i2 fin hi => (m_puti (m_iload (m_iret hi)))
theorem mobx_1135 : xBm bx_1135 := fun dl fs i1 i2 fin hi => (m_ret hi)
theorem mobx_1136 : xBm bx_1136 := fun dl fs i1 i2 fin hi => (m_aload (m_getr (m_getr (m_iload (m_ald (m_iconst (m_if2 (m_xgo hi) (m_aload (m_iload (m_iload (m_callv hi)))))))))))
theorem mobx_1137 : xBm bx_1137 := fun dl fs i1 i2 fin hi => (m_ret hi)
theorem mobx_1138 : xBm bx_1138 := fun dl fs i1 i2 fin hi => (m_geti (m_ald (m_iload (m_bin (m_iload (m_bin (m_ast (m_aload (m_getr (m_aload (m_geti (m_aload (m_getr (m_iload (m_ald (m_ast (m_aload (m_dup (m_geti (m_iconst (m_bin (m_puti (m_xgo hi)))))))))))))))))))))))
theorem mobx_1139 : xBm bx_1139 := fun dl fs i1 i2 fin hi => (m_ret hi)
theorem mobx_1140 : xBm bx_1140 := fun dl fs i1 i2 fin hi => (m_dup (m_geti (m_iconst (m_bin (m_puti (m_ret hi))))))
theorem mobx_1141 : xBm bx_1141 := fun dl fs i1 i2 fin hi => (m_aload (m_iconst (m_newa (m_putr (m_aload (m_iconst (m_newa (m_putr (m_aload (m_iconst (m_newa (m_putr (m_aload (m_aload (m_putr (m_aload (m_new (m_dup (m_calli hi)))))))))))))))))))
theorem mobx_1142 : xBm bx_1142 := fun dl fs i1 i2 fin hi => (m_aload (m_iconst (m_newa (m_putr (m_aload (m_iconst (m_newa (m_putr (m_aload (m_aload (m_putr (m_aload (m_aload (m_putr (m_ret hi)))))))))))))))
theorem mobx_1143 : xBm bx_1143 := fun dl fs i1 i2 fin hi => (m_iconst (m_istore (m_aload (m_iconst (m_callv hi)))))
theorem mobx_1144 : xBm bx_1144 := fun dl fs i1 i2 fin hi => (m_iconst (m_istore (m_iload (m_aload (m_getr (m_geti (m_if2 (m_xgo hi) (m_iload (m_iconst (m_if2 (m_xgo hi) m_no))))))))))
theorem mobx_1145 : xBm bx_1145 := fun dl fs i1 i2 fin hi => (m_getr (m_getr (m_iload (m_iload (m_ast (m_aload (m_getr (m_getr (m_iload (m_aload (m_callv hi)))))))))))
theorem mobx_1146 : xBm bx_1146 := fun dl fs i1 i2 fin hi => (m_iload (m_ast (m_aload (m_getr (m_iconst (m_aload (m_getr (m_getr (m_iload (m_ald (m_iconst (m_iload (m_callv hi)))))))))))))
theorem mobx_1147 : xBm bx_1147 := fun dl fs i1 i2 fin hi => (m_aload (m_getr (m_getr (m_iload (m_ald (m_iconst (m_iload (m_callv hi))))))))
theorem mobx_1148 : xBm bx_1148 := fun dl fs i1 i2 fin hi => (m_aload (m_iconst (m_newa (m_putr (m_aload (m_iconst (m_newa (m_putr (m_aload (m_iconst (m_newa (m_putr (m_aload (m_iconst (m_newa (m_putr (m_ret hi)))))))))))))))))
theorem mobx_1149 : xBm bx_1149 := fun dl fs i1 i2 fin hi => (m_aload (m_iconst (m_newa (m_putr (m_aload (m_aload (m_putr (m_aload (m_aload (m_putr (m_ret hi)))))))))))
theorem mobx_1150 : xBm bx_1150 := fun dl fs i1 i2 fin hi => (m_putr (m_aload (m_iconst (m_newa (m_putr (m_aload (m_iconst (m_newa (m_putr (m_aload (m_iconst (m_newa (m_putr (m_aload (m_aload (m_putr (m_aload (m_aload (m_putr (m_aload (m_new (m_dup (m_xgo hi)))))))))))))))))))))))
theorem mobx_1151 : xBm bx_1151 := fun dl fs i1 i2 fin hi => (m_aload (m_iconst (m_newa (m_putr (m_aload (m_iconst (m_newa (m_putr (m_aload (m_iconst (m_newa (m_putr (m_aload (m_iconst (m_newa (m_putr (m_aload (m_iconst (m_newa (m_putr (m_aload (m_iconst (m_xgo hi)))))))))))))))))))))))
theorem mobx_1152 : xBm bx_1152 := fun dl fs i1 i2 fin hi => (m_iconst (m_iconst (m_ast (m_aload (m_getr (m_iconst (m_iconst (m_ast (m_aload (m_getr (m_iconst (m_iconst (m_ast (m_aload (m_getr (m_iconst (m_iconst (m_iconst (m_calls hi)))))))))))))))))))
theorem mobx_1153 : xBm bx_1153 := fun dl fs i1 i2 fin hi => (m_aload (m_getr (m_iload (m_iload (m_ast (m_ret hi))))))
theorem mobx_1154 : xBm bx_1154 := fun dl fs i1 i2 fin hi => (m_iload (m_bin (m_ast (m_aload (m_getr (m_iload (m_iload (m_ast (m_aload (m_getr (m_iload (m_iload (m_ast (m_aload (m_getr (m_iload (m_dup2 (m_ald (m_iconst (m_bin (m_ast (m_iload (m_xgo hi)))))))))))))))))))))))
theorem mobx_1155 : xBm bx_1155 := fun dl fs i1 i2 fin hi => (m_ast (m_aload (m_getr (m_iload (m_iload (m_iconst (m_mmin (m_ast (m_aload (m_getr (m_iload (m_iconst (m_ast (m_aload (m_getr (m_iload (m_iconst (m_ast (m_aload (m_getr (m_iload (m_iconst (m_xgo hi)))))))))))))))))))))))
theorem mobx_1156 : xBm bx_1156 := fun dl fs i1 i2 fin hi => (m_ast (m_aload (m_getr (m_iload (m_iconst (m_ast (m_iload (m_iret hi))))))))
theorem mobx_1157 : xBm bx_1157 := fun dl fs i1 i2 fin hi => (m_iconst (m_copy (m_ret hi)))
theorem mobx_1158 : xBm bx_1158 := fun dl fs i1 i2 fin hi => (m_aload (m_aload (m_geti (m_puti (m_aload (m_aload (m_geti (m_puti (m_ret hi)))))))))
theorem mobx_1159 : xBm bx_1159 := fun dl fs i1 i2 fin hi => (m_ret hi)
theorem mobx_1160 : xBm bx_1160 := fun dl fs i1 i2 fin hi => (m_aload (m_iconst (m_newa (m_putr (m_aload (m_iconst (m_newa (m_putr (m_aload (m_iconst (m_newa (m_putr (m_aload (m_iconst (m_newa (m_putr (m_aload (m_iconst (m_newa (m_putr (m_aload (m_aload (m_xgo hi)))))))))))))))))))))))
theorem mobx_1161 : xBm bx_1161 := fun dl fs i1 i2 fin hi => (m_iload (m_ast (m_aload (m_getr (m_iload (m_iconst (m_bin (m_iload (m_ast (m_aload (m_getr (m_iload (m_iconst (m_bin (m_iload (m_ast (m_aload (m_dup (m_geti (m_iconst (m_bin (m_puti (m_xgo hi)))))))))))))))))))))))
theorem mobx_1162 : xBm bx_1162 := fun dl fs i1 i2 fin hi => (m_ald (m_aload (m_getr (m_getr (m_iload (m_ald (m_if2 (m_xgo hi) (m_iconst (m_xgo hi)))))))))
theorem mobx_1163 : xBm bx_1163 := fun dl fs i1 i2 fin hi => (m_iload (m_iconst (m_if2 (m_xgo hi) (m_aload (m_getr (m_getr (m_aload (m_getr (m_getr (m_iload (m_ald (m_ald (m_if1 (m_xgo hi) m_no)))))))))))))
theorem mobx_1164 : xBm bx_1164 := fun dl fs i1 i2 fin hi => (m_aload (m_getr (m_getr (m_aload (m_getr (m_getr (m_iload (m_ald (m_ald (m_if1 (m_xgo hi) m_no))))))))))
theorem mobx_1165 : xBm bx_1165 := fun dl fs i1 i2 fin hi => (m_iconst (m_bin (m_ald (m_istore (m_aload (m_getr (m_iload (m_iconst (m_bin (m_ald (m_istore (m_aload (m_iload (m_iload (m_iload (m_callv hi))))))))))))))))
theorem mobx_1166 : xBm bx_1166 := fun dl fs i1 i2 fin hi => (m_bin (m_iconst (m_bin (m_dup2 (m_ald (m_iload (m_iload (m_bin (m_bin (m_ast (m_iinc (m_xgo hi))))))))))))
theorem mobx_1167 : xBm bx_1167 := fun dl fs i1 i2 fin hi => (m_xgo hi)
theorem mobx_1168 : xBm bx_1168 := fun dl fs i1 i2 fin hi => (m_aload (m_getr (m_getr (m_iload (m_ald (m_istore (m_xgo hi)))))))
theorem mobx_1169 : xBm bx_1169 := fun dl fs i1 i2 fin hi => (m_aload (m_getr (m_getr (m_iload (m_ald (m_aload (m_aload (m_getr (m_getr (m_iload (m_ald (m_iconst (m_callv hi)))))))))))))
theorem mobx_1170 : xBm bx_1170 := fun dl fs i1 i2 fin hi => (m_callv hi)
theorem mobx_1171 : xBm bx_1171 := fun dl fs i1 i2 fin hi => (m_ast (m_ret hi))
theorem mobx_1172 : xBm bx_1172 := fun dl fs i1 i2 fin hi => (m_istore (m_iload (m_aload (m_getr (m_iload (m_iconst (m_bin (m_ald (m_if2 (m_xgo hi) (m_iconst (m_istore (m_iload (m_istore (m_xgo hi))))))))))))))
theorem mobx_1173 : xBm bx_1173 := fun dl fs i1 i2 fin hi => (m_iconst (m_bin (m_ald (m_istore (m_aload (m_getr (m_iload (m_iconst (m_bin (m_ald (m_istore (m_iload (m_iload (m_bin (m_iconst (m_if2 (m_xgo hi) (m_aload (m_iload (m_aload (m_getr (m_iload (m_ald (m_xgo hi)))))))))))))))))))))))
theorem mobx_1174 : xBm bx_1174 := fun dl fs i1 i2 fin hi => (m_callv hi)
theorem mobx_1175 : xBm bx_1175 := fun dl fs i1 i2 fin hi => (m_iconst (m_xgo hi))
theorem mobx_1176 : xBm bx_1176 := fun dl fs i1 i2 fin hi => (m_iload (m_ald (m_istore (m_xgo hi))))
theorem mobx_1177 : xBm bx_1177 := fun dl fs i1 i2 fin hi => (m_if1 (m_xgo hi) m_no)
theorem mobx_1178 : xBm bx_1178 := fun dl fs i1 i2 fin hi => (m_iload (m_iconst (m_if2 (m_xgo hi) (m_aload (m_iload (m_iload (m_callv hi)))))))
theorem mobx_1179 : xBm bx_1179 := fun dl fs i1 i2 fin hi => (m_iload (m_if1 (m_xgo hi) m_no))
theorem mobx_1180 : xBm bx_1180 := fun dl fs i1 i2 fin hi => (m_callv hi)
theorem mobx_1181 : xBm bx_1181 := fun dl fs i1 i2 fin hi => (m_bin (m_ast (m_aload (m_getr (m_getr (m_iload (m_aload (m_iload (m_callv hi)))))))))
theorem mobx_1182 : xBm bx_1182 := fun dl fs i1 i2 fin hi => (m_ret hi)
theorem mobx_1183 : xBm bx_1183 := fun dl fs i1 i2 fin hi => (m_getr (m_iload (m_iconst (m_bin (m_ald (m_iload (m_callv hi)))))))
theorem mobx_1184 : xBm bx_1184 := fun dl fs i1 i2 fin hi => (m_ast (m_aload (m_getr (m_getr (m_iload (m_iconst (m_ast (m_ret hi))))))))
theorem mobx_1185 : xBm bx_1185 := fun dl fs i1 i2 fin hi => (m_iload (m_iret hi))
theorem mobx_1186 : xBm bx_1186 := fun dl fs i1 i2 fin hi => (m_aload (m_getr (m_iload (m_aload (m_geti (m_ast (m_aload (m_geti (m_iconst (m_bin (m_iret hi)))))))))))
theorem mobx_1187 : xBm bx_1187 := fun dl fs i1 i2 fin hi => (m_aload (m_aload (m_calli hi)))
theorem mobx_1188 : xBm bx_1188 := fun dl fs i1 i2 fin hi => (m_newa (m_putr (m_aload (m_iconst (m_newa (m_putr (m_aload (m_iconst (m_newa (m_putr (m_aload (m_iconst (m_newa (m_putr (m_aload (m_iconst (m_newa (m_putr (m_aload (m_iconst (m_newa (m_putr (m_xgo hi)))))))))))))))))))))))
theorem mobx_1189 : xBm bx_1189 := fun dl fs i1 i2 fin hi => (m_iret hi)
theorem mobx_1190 : xBm bx_1190 := fun dl fs i1 i2 fin hi => (m_ast (m_aload (m_getr (m_iload (m_iconst (m_ast (m_aload (m_getr (m_iload (m_iconst (m_ast (m_aload (m_getr (m_iload (m_iload (m_iconst (m_if2 (m_xgo hi) (m_iconst (m_xgo hi)))))))))))))))))))
theorem mobx_1191 : xBm bx_1191 := fun dl fs i1 i2 fin hi => (m_putr (m_aload (m_aload (m_putr (m_ret hi)))))
theorem mobx_1192 : xBm bx_1192 := fun dl fs i1 i2 fin hi => (m_ret hi)
theorem mobx_1193 : xBm bx_1193 := fun dl fs i1 i2 fin hi => (m_callv hi)
theorem mobx_1194 : xBm bx_1194 := fun dl fs i1 i2 fin hi => (m_aload (m_iconst (m_newa (m_putr (m_aload (m_iconst (m_newa (m_putr (m_aload (m_iconst (m_newa (m_putr (m_aload (m_iconst (m_newa (m_putr (m_aload (m_iconst (m_iconst (m_iconst (m_iconst (m_callv hi))))))))))))))))))))))
theorem mobx_no : xBm bx_no := fun _ _ _ _ _ _ => m_no
theorem mocodex_z1 (b s : Nat) : xall (fun _ a => xBm a) 1 b s codex_z1 := And.intro mobx_no mobx_no
theorem mocodex_z2 (b s : Nat) : xall (fun _ a => xBm a) 2 b s codex_z2 := And.intro (mocodex_z1 b (2 * s)) (mocodex_z1 (b + s) (2 * s))
theorem mocodex_z3 (b s : Nat) : xall (fun _ a => xBm a) 3 b s codex_z3 := And.intro (mocodex_z2 b (2 * s)) (mocodex_z2 (b + s) (2 * s))
theorem mocodex_z4 (b s : Nat) : xall (fun _ a => xBm a) 4 b s codex_z4 := And.intro (mocodex_z3 b (2 * s)) (mocodex_z3 (b + s) (2 * s))
theorem mocodex_z5 (b s : Nat) : xall (fun _ a => xBm a) 5 b s codex_z5 := And.intro (mocodex_z4 b (2 * s)) (mocodex_z4 (b + s) (2 * s))
theorem mocodex_z6 (b s : Nat) : xall (fun _ a => xBm a) 6 b s codex_z6 := And.intro (mocodex_z5 b (2 * s)) (mocodex_z5 (b + s) (2 * s))
theorem mocodex_z7 (b s : Nat) : xall (fun _ a => xBm a) 7 b s codex_z7 := And.intro (mocodex_z6 b (2 * s)) (mocodex_z6 (b + s) (2 * s))
theorem mocodex_z8 (b s : Nat) : xall (fun _ a => xBm a) 8 b s codex_z8 := And.intro (mocodex_z7 b (2 * s)) (mocodex_z7 (b + s) (2 * s))
theorem mocodex_z9 (b s : Nat) : xall (fun _ a => xBm a) 9 b s codex_z9 := And.intro (mocodex_z8 b (2 * s)) (mocodex_z8 (b + s) (2 * s))
theorem mocodex_z10 (b s : Nat) : xall (fun _ a => xBm a) 10 b s codex_z10 := And.intro (mocodex_z9 b (2 * s)) (mocodex_z9 (b + s) (2 * s))
theorem mocodex_z11 (b s : Nat) : xall (fun _ a => xBm a) 11 b s codex_z11 := And.intro (mocodex_z10 b (2 * s)) (mocodex_z10 (b + s) (2 * s))
theorem mocodex_0 (b s : Nat) : xall (fun _ a => xBm a) 1 b s codex_0 := And.intro mobx_0 mobx_1024
theorem mocodex_1 (b s : Nat) : xall (fun _ a => xBm a) 1 b s codex_1 := And.intro mobx_512 mobx_no
theorem mocodex_2 (b s : Nat) : xall (fun _ a => xBm a) 2 b s codex_2 := And.intro (mocodex_0 b (2 * s)) (mocodex_1 (b + s) (2 * s))
theorem mocodex_3 (b s : Nat) : xall (fun _ a => xBm a) 1 b s codex_3 := And.intro mobx_256 mobx_no
theorem mocodex_4 (b s : Nat) : xall (fun _ a => xBm a) 1 b s codex_4 := And.intro mobx_768 mobx_no
theorem mocodex_5 (b s : Nat) : xall (fun _ a => xBm a) 2 b s codex_5 := And.intro (mocodex_3 b (2 * s)) (mocodex_4 (b + s) (2 * s))
theorem mocodex_6 (b s : Nat) : xall (fun _ a => xBm a) 3 b s codex_6 := And.intro (mocodex_2 b (2 * s)) (mocodex_5 (b + s) (2 * s))
theorem mocodex_7 (b s : Nat) : xall (fun _ a => xBm a) 1 b s codex_7 := And.intro mobx_128 mobx_1152
theorem mocodex_8 (b s : Nat) : xall (fun _ a => xBm a) 1 b s codex_8 := And.intro mobx_640 mobx_no
theorem mocodex_9 (b s : Nat) : xall (fun _ a => xBm a) 2 b s codex_9 := And.intro (mocodex_7 b (2 * s)) (mocodex_8 (b + s) (2 * s))
theorem mocodex_10 (b s : Nat) : xall (fun _ a => xBm a) 1 b s codex_10 := And.intro mobx_384 mobx_no
theorem mocodex_11 (b s : Nat) : xall (fun _ a => xBm a) 1 b s codex_11 := And.intro mobx_896 mobx_no
theorem mocodex_12 (b s : Nat) : xall (fun _ a => xBm a) 2 b s codex_12 := And.intro (mocodex_10 b (2 * s)) (mocodex_11 (b + s) (2 * s))
theorem mocodex_13 (b s : Nat) : xall (fun _ a => xBm a) 3 b s codex_13 := And.intro (mocodex_9 b (2 * s)) (mocodex_12 (b + s) (2 * s))
theorem mocodex_14 (b s : Nat) : xall (fun _ a => xBm a) 4 b s codex_14 := And.intro (mocodex_6 b (2 * s)) (mocodex_13 (b + s) (2 * s))
theorem mocodex_15 (b s : Nat) : xall (fun _ a => xBm a) 1 b s codex_15 := And.intro mobx_64 mobx_1088
theorem mocodex_16 (b s : Nat) : xall (fun _ a => xBm a) 1 b s codex_16 := And.intro mobx_576 mobx_no
theorem mocodex_17 (b s : Nat) : xall (fun _ a => xBm a) 2 b s codex_17 := And.intro (mocodex_15 b (2 * s)) (mocodex_16 (b + s) (2 * s))
theorem mocodex_18 (b s : Nat) : xall (fun _ a => xBm a) 1 b s codex_18 := And.intro mobx_320 mobx_no
theorem mocodex_19 (b s : Nat) : xall (fun _ a => xBm a) 1 b s codex_19 := And.intro mobx_832 mobx_no
theorem mocodex_20 (b s : Nat) : xall (fun _ a => xBm a) 2 b s codex_20 := And.intro (mocodex_18 b (2 * s)) (mocodex_19 (b + s) (2 * s))
theorem mocodex_21 (b s : Nat) : xall (fun _ a => xBm a) 3 b s codex_21 := And.intro (mocodex_17 b (2 * s)) (mocodex_20 (b + s) (2 * s))
theorem mocodex_22 (b s : Nat) : xall (fun _ a => xBm a) 1 b s codex_22 := And.intro mobx_192 mobx_no
theorem mocodex_23 (b s : Nat) : xall (fun _ a => xBm a) 1 b s codex_23 := And.intro mobx_704 mobx_no
theorem mocodex_24 (b s : Nat) : xall (fun _ a => xBm a) 2 b s codex_24 := And.intro (mocodex_22 b (2 * s)) (mocodex_23 (b + s) (2 * s))
theorem mocodex_25 (b s : Nat) : xall (fun _ a => xBm a) 1 b s codex_25 := And.intro mobx_448 mobx_no
theorem mocodex_26 (b s : Nat) : xall (fun _ a => xBm a) 1 b s codex_26 := And.intro mobx_960 mobx_no
theorem mocodex_27 (b s : Nat) : xall (fun _ a => xBm a) 2 b s codex_27 := And.intro (mocodex_25 b (2 * s)) (mocodex_26 (b + s) (2 * s))
theorem mocodex_28 (b s : Nat) : xall (fun _ a => xBm a) 3 b s codex_28 := And.intro (mocodex_24 b (2 * s)) (mocodex_27 (b + s) (2 * s))
theorem mocodex_29 (b s : Nat) : xall (fun _ a => xBm a) 4 b s codex_29 := And.intro (mocodex_21 b (2 * s)) (mocodex_28 (b + s) (2 * s))
theorem mocodex_30 (b s : Nat) : xall (fun _ a => xBm a) 5 b s codex_30 := And.intro (mocodex_14 b (2 * s)) (mocodex_29 (b + s) (2 * s))
theorem mocodex_31 (b s : Nat) : xall (fun _ a => xBm a) 1 b s codex_31 := And.intro mobx_32 mobx_1056
theorem mocodex_32 (b s : Nat) : xall (fun _ a => xBm a) 1 b s codex_32 := And.intro mobx_544 mobx_no
theorem mocodex_33 (b s : Nat) : xall (fun _ a => xBm a) 2 b s codex_33 := And.intro (mocodex_31 b (2 * s)) (mocodex_32 (b + s) (2 * s))
theorem mocodex_34 (b s : Nat) : xall (fun _ a => xBm a) 1 b s codex_34 := And.intro mobx_288 mobx_no
theorem mocodex_35 (b s : Nat) : xall (fun _ a => xBm a) 1 b s codex_35 := And.intro mobx_800 mobx_no
theorem mocodex_36 (b s : Nat) : xall (fun _ a => xBm a) 2 b s codex_36 := And.intro (mocodex_34 b (2 * s)) (mocodex_35 (b + s) (2 * s))
theorem mocodex_37 (b s : Nat) : xall (fun _ a => xBm a) 3 b s codex_37 := And.intro (mocodex_33 b (2 * s)) (mocodex_36 (b + s) (2 * s))
theorem mocodex_38 (b s : Nat) : xall (fun _ a => xBm a) 1 b s codex_38 := And.intro mobx_160 mobx_1184
theorem mocodex_39 (b s : Nat) : xall (fun _ a => xBm a) 1 b s codex_39 := And.intro mobx_672 mobx_no
theorem mocodex_40 (b s : Nat) : xall (fun _ a => xBm a) 2 b s codex_40 := And.intro (mocodex_38 b (2 * s)) (mocodex_39 (b + s) (2 * s))
theorem mocodex_41 (b s : Nat) : xall (fun _ a => xBm a) 1 b s codex_41 := And.intro mobx_416 mobx_no
theorem mocodex_42 (b s : Nat) : xall (fun _ a => xBm a) 1 b s codex_42 := And.intro mobx_928 mobx_no
theorem mocodex_43 (b s : Nat) : xall (fun _ a => xBm a) 2 b s codex_43 := And.intro (mocodex_41 b (2 * s)) (mocodex_42 (b + s) (2 * s))
theorem mocodex_44 (b s : Nat) : xall (fun _ a => xBm a) 3 b s codex_44 := And.intro (mocodex_40 b (2 * s)) (mocodex_43 (b + s) (2 * s))
theorem mocodex_45 (b s : Nat) : xall (fun _ a => xBm a) 4 b s codex_45 := And.intro (mocodex_37 b (2 * s)) (mocodex_44 (b + s) (2 * s))
theorem mocodex_46 (b s : Nat) : xall (fun _ a => xBm a) 1 b s codex_46 := And.intro mobx_96 mobx_1120
theorem mocodex_47 (b s : Nat) : xall (fun _ a => xBm a) 1 b s codex_47 := And.intro mobx_608 mobx_no
theorem mocodex_48 (b s : Nat) : xall (fun _ a => xBm a) 2 b s codex_48 := And.intro (mocodex_46 b (2 * s)) (mocodex_47 (b + s) (2 * s))
theorem mocodex_49 (b s : Nat) : xall (fun _ a => xBm a) 1 b s codex_49 := And.intro mobx_352 mobx_no
theorem mocodex_50 (b s : Nat) : xall (fun _ a => xBm a) 1 b s codex_50 := And.intro mobx_864 mobx_no
theorem mocodex_51 (b s : Nat) : xall (fun _ a => xBm a) 2 b s codex_51 := And.intro (mocodex_49 b (2 * s)) (mocodex_50 (b + s) (2 * s))
theorem mocodex_52 (b s : Nat) : xall (fun _ a => xBm a) 3 b s codex_52 := And.intro (mocodex_48 b (2 * s)) (mocodex_51 (b + s) (2 * s))
theorem mocodex_53 (b s : Nat) : xall (fun _ a => xBm a) 1 b s codex_53 := And.intro mobx_224 mobx_no
theorem mocodex_54 (b s : Nat) : xall (fun _ a => xBm a) 1 b s codex_54 := And.intro mobx_736 mobx_no
theorem mocodex_55 (b s : Nat) : xall (fun _ a => xBm a) 2 b s codex_55 := And.intro (mocodex_53 b (2 * s)) (mocodex_54 (b + s) (2 * s))
theorem mocodex_56 (b s : Nat) : xall (fun _ a => xBm a) 1 b s codex_56 := And.intro mobx_480 mobx_no
theorem mocodex_57 (b s : Nat) : xall (fun _ a => xBm a) 1 b s codex_57 := And.intro mobx_992 mobx_no
theorem mocodex_58 (b s : Nat) : xall (fun _ a => xBm a) 2 b s codex_58 := And.intro (mocodex_56 b (2 * s)) (mocodex_57 (b + s) (2 * s))
theorem mocodex_59 (b s : Nat) : xall (fun _ a => xBm a) 3 b s codex_59 := And.intro (mocodex_55 b (2 * s)) (mocodex_58 (b + s) (2 * s))
theorem mocodex_60 (b s : Nat) : xall (fun _ a => xBm a) 4 b s codex_60 := And.intro (mocodex_52 b (2 * s)) (mocodex_59 (b + s) (2 * s))
theorem mocodex_61 (b s : Nat) : xall (fun _ a => xBm a) 5 b s codex_61 := And.intro (mocodex_45 b (2 * s)) (mocodex_60 (b + s) (2 * s))
theorem mocodex_62 (b s : Nat) : xall (fun _ a => xBm a) 6 b s codex_62 := And.intro (mocodex_30 b (2 * s)) (mocodex_61 (b + s) (2 * s))
theorem mocodex_63 (b s : Nat) : xall (fun _ a => xBm a) 1 b s codex_63 := And.intro mobx_16 mobx_1040
theorem mocodex_64 (b s : Nat) : xall (fun _ a => xBm a) 1 b s codex_64 := And.intro mobx_528 mobx_no
theorem mocodex_65 (b s : Nat) : xall (fun _ a => xBm a) 2 b s codex_65 := And.intro (mocodex_63 b (2 * s)) (mocodex_64 (b + s) (2 * s))
theorem mocodex_66 (b s : Nat) : xall (fun _ a => xBm a) 1 b s codex_66 := And.intro mobx_272 mobx_no
theorem mocodex_67 (b s : Nat) : xall (fun _ a => xBm a) 1 b s codex_67 := And.intro mobx_784 mobx_no
theorem mocodex_68 (b s : Nat) : xall (fun _ a => xBm a) 2 b s codex_68 := And.intro (mocodex_66 b (2 * s)) (mocodex_67 (b + s) (2 * s))
theorem mocodex_69 (b s : Nat) : xall (fun _ a => xBm a) 3 b s codex_69 := And.intro (mocodex_65 b (2 * s)) (mocodex_68 (b + s) (2 * s))
theorem mocodex_70 (b s : Nat) : xall (fun _ a => xBm a) 1 b s codex_70 := And.intro mobx_144 mobx_1168
theorem mocodex_71 (b s : Nat) : xall (fun _ a => xBm a) 1 b s codex_71 := And.intro mobx_656 mobx_no
theorem mocodex_72 (b s : Nat) : xall (fun _ a => xBm a) 2 b s codex_72 := And.intro (mocodex_70 b (2 * s)) (mocodex_71 (b + s) (2 * s))
theorem mocodex_73 (b s : Nat) : xall (fun _ a => xBm a) 1 b s codex_73 := And.intro mobx_400 mobx_no
theorem mocodex_74 (b s : Nat) : xall (fun _ a => xBm a) 1 b s codex_74 := And.intro mobx_912 mobx_no
theorem mocodex_75 (b s : Nat) : xall (fun _ a => xBm a) 2 b s codex_75 := And.intro (mocodex_73 b (2 * s)) (mocodex_74 (b + s) (2 * s))
theorem mocodex_76 (b s : Nat) : xall (fun _ a => xBm a) 3 b s codex_76 := And.intro (mocodex_72 b (2 * s)) (mocodex_75 (b + s) (2 * s))
theorem mocodex_77 (b s : Nat) : xall (fun _ a => xBm a) 4 b s codex_77 := And.intro (mocodex_69 b (2 * s)) (mocodex_76 (b + s) (2 * s))
theorem mocodex_78 (b s : Nat) : xall (fun _ a => xBm a) 1 b s codex_78 := And.intro mobx_80 mobx_1104
theorem mocodex_79 (b s : Nat) : xall (fun _ a => xBm a) 1 b s codex_79 := And.intro mobx_592 mobx_no
theorem mocodex_80 (b s : Nat) : xall (fun _ a => xBm a) 2 b s codex_80 := And.intro (mocodex_78 b (2 * s)) (mocodex_79 (b + s) (2 * s))
theorem mocodex_81 (b s : Nat) : xall (fun _ a => xBm a) 1 b s codex_81 := And.intro mobx_336 mobx_no
theorem mocodex_82 (b s : Nat) : xall (fun _ a => xBm a) 1 b s codex_82 := And.intro mobx_848 mobx_no
theorem mocodex_83 (b s : Nat) : xall (fun _ a => xBm a) 2 b s codex_83 := And.intro (mocodex_81 b (2 * s)) (mocodex_82 (b + s) (2 * s))
theorem mocodex_84 (b s : Nat) : xall (fun _ a => xBm a) 3 b s codex_84 := And.intro (mocodex_80 b (2 * s)) (mocodex_83 (b + s) (2 * s))
theorem mocodex_85 (b s : Nat) : xall (fun _ a => xBm a) 1 b s codex_85 := And.intro mobx_208 mobx_no
theorem mocodex_86 (b s : Nat) : xall (fun _ a => xBm a) 1 b s codex_86 := And.intro mobx_720 mobx_no
theorem mocodex_87 (b s : Nat) : xall (fun _ a => xBm a) 2 b s codex_87 := And.intro (mocodex_85 b (2 * s)) (mocodex_86 (b + s) (2 * s))
theorem mocodex_88 (b s : Nat) : xall (fun _ a => xBm a) 1 b s codex_88 := And.intro mobx_464 mobx_no
theorem mocodex_89 (b s : Nat) : xall (fun _ a => xBm a) 1 b s codex_89 := And.intro mobx_976 mobx_no
theorem mocodex_90 (b s : Nat) : xall (fun _ a => xBm a) 2 b s codex_90 := And.intro (mocodex_88 b (2 * s)) (mocodex_89 (b + s) (2 * s))
theorem mocodex_91 (b s : Nat) : xall (fun _ a => xBm a) 3 b s codex_91 := And.intro (mocodex_87 b (2 * s)) (mocodex_90 (b + s) (2 * s))
theorem mocodex_92 (b s : Nat) : xall (fun _ a => xBm a) 4 b s codex_92 := And.intro (mocodex_84 b (2 * s)) (mocodex_91 (b + s) (2 * s))
theorem mocodex_93 (b s : Nat) : xall (fun _ a => xBm a) 5 b s codex_93 := And.intro (mocodex_77 b (2 * s)) (mocodex_92 (b + s) (2 * s))
theorem mocodex_94 (b s : Nat) : xall (fun _ a => xBm a) 1 b s codex_94 := And.intro mobx_48 mobx_1072
theorem mocodex_95 (b s : Nat) : xall (fun _ a => xBm a) 1 b s codex_95 := And.intro mobx_560 mobx_no
theorem mocodex_96 (b s : Nat) : xall (fun _ a => xBm a) 2 b s codex_96 := And.intro (mocodex_94 b (2 * s)) (mocodex_95 (b + s) (2 * s))
theorem mocodex_97 (b s : Nat) : xall (fun _ a => xBm a) 1 b s codex_97 := And.intro mobx_304 mobx_no
theorem mocodex_98 (b s : Nat) : xall (fun _ a => xBm a) 1 b s codex_98 := And.intro mobx_816 mobx_no
theorem mocodex_99 (b s : Nat) : xall (fun _ a => xBm a) 2 b s codex_99 := And.intro (mocodex_97 b (2 * s)) (mocodex_98 (b + s) (2 * s))
theorem mocodex_100 (b s : Nat) : xall (fun _ a => xBm a) 3 b s codex_100 := And.intro (mocodex_96 b (2 * s)) (mocodex_99 (b + s) (2 * s))
theorem mocodex_101 (b s : Nat) : xall (fun _ a => xBm a) 1 b s codex_101 := And.intro mobx_176 mobx_no
theorem mocodex_102 (b s : Nat) : xall (fun _ a => xBm a) 1 b s codex_102 := And.intro mobx_688 mobx_no
theorem mocodex_103 (b s : Nat) : xall (fun _ a => xBm a) 2 b s codex_103 := And.intro (mocodex_101 b (2 * s)) (mocodex_102 (b + s) (2 * s))
theorem mocodex_104 (b s : Nat) : xall (fun _ a => xBm a) 1 b s codex_104 := And.intro mobx_432 mobx_no
theorem mocodex_105 (b s : Nat) : xall (fun _ a => xBm a) 1 b s codex_105 := And.intro mobx_944 mobx_no
theorem mocodex_106 (b s : Nat) : xall (fun _ a => xBm a) 2 b s codex_106 := And.intro (mocodex_104 b (2 * s)) (mocodex_105 (b + s) (2 * s))
theorem mocodex_107 (b s : Nat) : xall (fun _ a => xBm a) 3 b s codex_107 := And.intro (mocodex_103 b (2 * s)) (mocodex_106 (b + s) (2 * s))
theorem mocodex_108 (b s : Nat) : xall (fun _ a => xBm a) 4 b s codex_108 := And.intro (mocodex_100 b (2 * s)) (mocodex_107 (b + s) (2 * s))
theorem mocodex_109 (b s : Nat) : xall (fun _ a => xBm a) 1 b s codex_109 := And.intro mobx_112 mobx_1136
theorem mocodex_110 (b s : Nat) : xall (fun _ a => xBm a) 1 b s codex_110 := And.intro mobx_624 mobx_no
theorem mocodex_111 (b s : Nat) : xall (fun _ a => xBm a) 2 b s codex_111 := And.intro (mocodex_109 b (2 * s)) (mocodex_110 (b + s) (2 * s))
theorem mocodex_112 (b s : Nat) : xall (fun _ a => xBm a) 1 b s codex_112 := And.intro mobx_368 mobx_no
theorem mocodex_113 (b s : Nat) : xall (fun _ a => xBm a) 1 b s codex_113 := And.intro mobx_880 mobx_no
theorem mocodex_114 (b s : Nat) : xall (fun _ a => xBm a) 2 b s codex_114 := And.intro (mocodex_112 b (2 * s)) (mocodex_113 (b + s) (2 * s))
theorem mocodex_115 (b s : Nat) : xall (fun _ a => xBm a) 3 b s codex_115 := And.intro (mocodex_111 b (2 * s)) (mocodex_114 (b + s) (2 * s))
theorem mocodex_116 (b s : Nat) : xall (fun _ a => xBm a) 1 b s codex_116 := And.intro mobx_240 mobx_no
theorem mocodex_117 (b s : Nat) : xall (fun _ a => xBm a) 1 b s codex_117 := And.intro mobx_752 mobx_no
theorem mocodex_118 (b s : Nat) : xall (fun _ a => xBm a) 2 b s codex_118 := And.intro (mocodex_116 b (2 * s)) (mocodex_117 (b + s) (2 * s))
theorem mocodex_119 (b s : Nat) : xall (fun _ a => xBm a) 1 b s codex_119 := And.intro mobx_496 mobx_no
theorem mocodex_120 (b s : Nat) : xall (fun _ a => xBm a) 1 b s codex_120 := And.intro mobx_1008 mobx_no
theorem mocodex_121 (b s : Nat) : xall (fun _ a => xBm a) 2 b s codex_121 := And.intro (mocodex_119 b (2 * s)) (mocodex_120 (b + s) (2 * s))
theorem mocodex_122 (b s : Nat) : xall (fun _ a => xBm a) 3 b s codex_122 := And.intro (mocodex_118 b (2 * s)) (mocodex_121 (b + s) (2 * s))
theorem mocodex_123 (b s : Nat) : xall (fun _ a => xBm a) 4 b s codex_123 := And.intro (mocodex_115 b (2 * s)) (mocodex_122 (b + s) (2 * s))
theorem mocodex_124 (b s : Nat) : xall (fun _ a => xBm a) 5 b s codex_124 := And.intro (mocodex_108 b (2 * s)) (mocodex_123 (b + s) (2 * s))
theorem mocodex_125 (b s : Nat) : xall (fun _ a => xBm a) 6 b s codex_125 := And.intro (mocodex_93 b (2 * s)) (mocodex_124 (b + s) (2 * s))
theorem mocodex_126 (b s : Nat) : xall (fun _ a => xBm a) 7 b s codex_126 := And.intro (mocodex_62 b (2 * s)) (mocodex_125 (b + s) (2 * s))
theorem mocodex_127 (b s : Nat) : xall (fun _ a => xBm a) 1 b s codex_127 := And.intro mobx_8 mobx_1032
theorem mocodex_128 (b s : Nat) : xall (fun _ a => xBm a) 1 b s codex_128 := And.intro mobx_520 mobx_no
theorem mocodex_129 (b s : Nat) : xall (fun _ a => xBm a) 2 b s codex_129 := And.intro (mocodex_127 b (2 * s)) (mocodex_128 (b + s) (2 * s))
theorem mocodex_130 (b s : Nat) : xall (fun _ a => xBm a) 1 b s codex_130 := And.intro mobx_264 mobx_no
theorem mocodex_131 (b s : Nat) : xall (fun _ a => xBm a) 1 b s codex_131 := And.intro mobx_776 mobx_no
theorem mocodex_132 (b s : Nat) : xall (fun _ a => xBm a) 2 b s codex_132 := And.intro (mocodex_130 b (2 * s)) (mocodex_131 (b + s) (2 * s))
theorem mocodex_133 (b s : Nat) : xall (fun _ a => xBm a) 3 b s codex_133 := And.intro (mocodex_129 b (2 * s)) (mocodex_132 (b + s) (2 * s))
theorem mocodex_134 (b s : Nat) : xall (fun _ a => xBm a) 1 b s codex_134 := And.intro mobx_136 mobx_1160
theorem mocodex_135 (b s : Nat) : xall (fun _ a => xBm a) 1 b s codex_135 := And.intro mobx_648 mobx_no
theorem mocodex_136 (b s : Nat) : xall (fun _ a => xBm a) 2 b s codex_136 := And.intro (mocodex_134 b (2 * s)) (mocodex_135 (b + s) (2 * s))
theorem mocodex_137 (b s : Nat) : xall (fun _ a => xBm a) 1 b s codex_137 := And.intro mobx_392 mobx_no
theorem mocodex_138 (b s : Nat) : xall (fun _ a => xBm a) 1 b s codex_138 := And.intro mobx_904 mobx_no
theorem mocodex_139 (b s : Nat) : xall (fun _ a => xBm a) 2 b s codex_139 := And.intro (mocodex_137 b (2 * s)) (mocodex_138 (b + s) (2 * s))
theorem mocodex_140 (b s : Nat) : xall (fun _ a => xBm a) 3 b s codex_140 := And.intro (mocodex_136 b (2 * s)) (mocodex_139 (b + s) (2 * s))
theorem mocodex_141 (b s : Nat) : xall (fun _ a => xBm a) 4 b s codex_141 := And.intro (mocodex_133 b (2 * s)) (mocodex_140 (b + s) (2 * s))
theorem mocodex_142 (b s : Nat) : xall (fun _ a => xBm a) 1 b s codex_142 := And.intro mobx_72 mobx_1096
theorem mocodex_143 (b s : Nat) : xall (fun _ a => xBm a) 1 b s codex_143 := And.intro mobx_584 mobx_no
theorem mocodex_144 (b s : Nat) : xall (fun _ a => xBm a) 2 b s codex_144 := And.intro (mocodex_142 b (2 * s)) (mocodex_143 (b + s) (2 * s))
theorem mocodex_145 (b s : Nat) : xall (fun _ a => xBm a) 1 b s codex_145 := And.intro mobx_328 mobx_no
theorem mocodex_146 (b s : Nat) : xall (fun _ a => xBm a) 1 b s codex_146 := And.intro mobx_840 mobx_no
theorem mocodex_147 (b s : Nat) : xall (fun _ a => xBm a) 2 b s codex_147 := And.intro (mocodex_145 b (2 * s)) (mocodex_146 (b + s) (2 * s))
theorem mocodex_148 (b s : Nat) : xall (fun _ a => xBm a) 3 b s codex_148 := And.intro (mocodex_144 b (2 * s)) (mocodex_147 (b + s) (2 * s))
theorem mocodex_149 (b s : Nat) : xall (fun _ a => xBm a) 1 b s codex_149 := And.intro mobx_200 mobx_no
theorem mocodex_150 (b s : Nat) : xall (fun _ a => xBm a) 1 b s codex_150 := And.intro mobx_712 mobx_no
theorem mocodex_151 (b s : Nat) : xall (fun _ a => xBm a) 2 b s codex_151 := And.intro (mocodex_149 b (2 * s)) (mocodex_150 (b + s) (2 * s))
theorem mocodex_152 (b s : Nat) : xall (fun _ a => xBm a) 1 b s codex_152 := And.intro mobx_456 mobx_no
theorem mocodex_153 (b s : Nat) : xall (fun _ a => xBm a) 1 b s codex_153 := And.intro mobx_968 mobx_no
theorem mocodex_154 (b s : Nat) : xall (fun _ a => xBm a) 2 b s codex_154 := And.intro (mocodex_152 b (2 * s)) (mocodex_153 (b + s) (2 * s))
theorem mocodex_155 (b s : Nat) : xall (fun _ a => xBm a) 3 b s codex_155 := And.intro (mocodex_151 b (2 * s)) (mocodex_154 (b + s) (2 * s))
theorem mocodex_156 (b s : Nat) : xall (fun _ a => xBm a) 4 b s codex_156 := And.intro (mocodex_148 b (2 * s)) (mocodex_155 (b + s) (2 * s))
theorem mocodex_157 (b s : Nat) : xall (fun _ a => xBm a) 5 b s codex_157 := And.intro (mocodex_141 b (2 * s)) (mocodex_156 (b + s) (2 * s))
theorem mocodex_158 (b s : Nat) : xall (fun _ a => xBm a) 1 b s codex_158 := And.intro mobx_40 mobx_1064
theorem mocodex_159 (b s : Nat) : xall (fun _ a => xBm a) 1 b s codex_159 := And.intro mobx_552 mobx_no
theorem mocodex_160 (b s : Nat) : xall (fun _ a => xBm a) 2 b s codex_160 := And.intro (mocodex_158 b (2 * s)) (mocodex_159 (b + s) (2 * s))
theorem mocodex_161 (b s : Nat) : xall (fun _ a => xBm a) 1 b s codex_161 := And.intro mobx_296 mobx_no
theorem mocodex_162 (b s : Nat) : xall (fun _ a => xBm a) 1 b s codex_162 := And.intro mobx_808 mobx_no
theorem mocodex_163 (b s : Nat) : xall (fun _ a => xBm a) 2 b s codex_163 := And.intro (mocodex_161 b (2 * s)) (mocodex_162 (b + s) (2 * s))
theorem mocodex_164 (b s : Nat) : xall (fun _ a => xBm a) 3 b s codex_164 := And.intro (mocodex_160 b (2 * s)) (mocodex_163 (b + s) (2 * s))
theorem mocodex_165 (b s : Nat) : xall (fun _ a => xBm a) 1 b s codex_165 := And.intro mobx_168 mobx_1192
theorem mocodex_166 (b s : Nat) : xall (fun _ a => xBm a) 1 b s codex_166 := And.intro mobx_680 mobx_no
theorem mocodex_167 (b s : Nat) : xall (fun _ a => xBm a) 2 b s codex_167 := And.intro (mocodex_165 b (2 * s)) (mocodex_166 (b + s) (2 * s))
theorem mocodex_168 (b s : Nat) : xall (fun _ a => xBm a) 1 b s codex_168 := And.intro mobx_424 mobx_no
theorem mocodex_169 (b s : Nat) : xall (fun _ a => xBm a) 1 b s codex_169 := And.intro mobx_936 mobx_no
theorem mocodex_170 (b s : Nat) : xall (fun _ a => xBm a) 2 b s codex_170 := And.intro (mocodex_168 b (2 * s)) (mocodex_169 (b + s) (2 * s))
theorem mocodex_171 (b s : Nat) : xall (fun _ a => xBm a) 3 b s codex_171 := And.intro (mocodex_167 b (2 * s)) (mocodex_170 (b + s) (2 * s))
theorem mocodex_172 (b s : Nat) : xall (fun _ a => xBm a) 4 b s codex_172 := And.intro (mocodex_164 b (2 * s)) (mocodex_171 (b + s) (2 * s))
theorem mocodex_173 (b s : Nat) : xall (fun _ a => xBm a) 1 b s codex_173 := And.intro mobx_104 mobx_1128
theorem mocodex_174 (b s : Nat) : xall (fun _ a => xBm a) 1 b s codex_174 := And.intro mobx_616 mobx_no
theorem mocodex_175 (b s : Nat) : xall (fun _ a => xBm a) 2 b s codex_175 := And.intro (mocodex_173 b (2 * s)) (mocodex_174 (b + s) (2 * s))
theorem mocodex_176 (b s : Nat) : xall (fun _ a => xBm a) 1 b s codex_176 := And.intro mobx_360 mobx_no
theorem mocodex_177 (b s : Nat) : xall (fun _ a => xBm a) 1 b s codex_177 := And.intro mobx_872 mobx_no
theorem mocodex_178 (b s : Nat) : xall (fun _ a => xBm a) 2 b s codex_178 := And.intro (mocodex_176 b (2 * s)) (mocodex_177 (b + s) (2 * s))
theorem mocodex_179 (b s : Nat) : xall (fun _ a => xBm a) 3 b s codex_179 := And.intro (mocodex_175 b (2 * s)) (mocodex_178 (b + s) (2 * s))
theorem mocodex_180 (b s : Nat) : xall (fun _ a => xBm a) 1 b s codex_180 := And.intro mobx_232 mobx_no
theorem mocodex_181 (b s : Nat) : xall (fun _ a => xBm a) 1 b s codex_181 := And.intro mobx_744 mobx_no
theorem mocodex_182 (b s : Nat) : xall (fun _ a => xBm a) 2 b s codex_182 := And.intro (mocodex_180 b (2 * s)) (mocodex_181 (b + s) (2 * s))
theorem mocodex_183 (b s : Nat) : xall (fun _ a => xBm a) 1 b s codex_183 := And.intro mobx_488 mobx_no
theorem mocodex_184 (b s : Nat) : xall (fun _ a => xBm a) 1 b s codex_184 := And.intro mobx_1000 mobx_no
theorem mocodex_185 (b s : Nat) : xall (fun _ a => xBm a) 2 b s codex_185 := And.intro (mocodex_183 b (2 * s)) (mocodex_184 (b + s) (2 * s))
theorem mocodex_186 (b s : Nat) : xall (fun _ a => xBm a) 3 b s codex_186 := And.intro (mocodex_182 b (2 * s)) (mocodex_185 (b + s) (2 * s))
theorem mocodex_187 (b s : Nat) : xall (fun _ a => xBm a) 4 b s codex_187 := And.intro (mocodex_179 b (2 * s)) (mocodex_186 (b + s) (2 * s))
theorem mocodex_188 (b s : Nat) : xall (fun _ a => xBm a) 5 b s codex_188 := And.intro (mocodex_172 b (2 * s)) (mocodex_187 (b + s) (2 * s))
theorem mocodex_189 (b s : Nat) : xall (fun _ a => xBm a) 6 b s codex_189 := And.intro (mocodex_157 b (2 * s)) (mocodex_188 (b + s) (2 * s))
theorem mocodex_190 (b s : Nat) : xall (fun _ a => xBm a) 1 b s codex_190 := And.intro mobx_24 mobx_1048
theorem mocodex_191 (b s : Nat) : xall (fun _ a => xBm a) 1 b s codex_191 := And.intro mobx_536 mobx_no
theorem mocodex_192 (b s : Nat) : xall (fun _ a => xBm a) 2 b s codex_192 := And.intro (mocodex_190 b (2 * s)) (mocodex_191 (b + s) (2 * s))
theorem mocodex_193 (b s : Nat) : xall (fun _ a => xBm a) 1 b s codex_193 := And.intro mobx_280 mobx_no
theorem mocodex_194 (b s : Nat) : xall (fun _ a => xBm a) 1 b s codex_194 := And.intro mobx_792 mobx_no
theorem mocodex_195 (b s : Nat) : xall (fun _ a => xBm a) 2 b s codex_195 := And.intro (mocodex_193 b (2 * s)) (mocodex_194 (b + s) (2 * s))
theorem mocodex_196 (b s : Nat) : xall (fun _ a => xBm a) 3 b s codex_196 := And.intro (mocodex_192 b (2 * s)) (mocodex_195 (b + s) (2 * s))
theorem mocodex_197 (b s : Nat) : xall (fun _ a => xBm a) 1 b s codex_197 := And.intro mobx_152 mobx_1176
theorem mocodex_198 (b s : Nat) : xall (fun _ a => xBm a) 1 b s codex_198 := And.intro mobx_664 mobx_no
theorem mocodex_199 (b s : Nat) : xall (fun _ a => xBm a) 2 b s codex_199 := And.intro (mocodex_197 b (2 * s)) (mocodex_198 (b + s) (2 * s))
theorem mocodex_200 (b s : Nat) : xall (fun _ a => xBm a) 1 b s codex_200 := And.intro mobx_408 mobx_no
theorem mocodex_201 (b s : Nat) : xall (fun _ a => xBm a) 1 b s codex_201 := And.intro mobx_920 mobx_no
theorem mocodex_202 (b s : Nat) : xall (fun _ a => xBm a) 2 b s codex_202 := And.intro (mocodex_200 b (2 * s)) (mocodex_201 (b + s) (2 * s))
theorem mocodex_203 (b s : Nat) : xall (fun _ a => xBm a) 3 b s codex_203 := And.intro (mocodex_199 b (2 * s)) (mocodex_202 (b + s) (2 * s))
theorem mocodex_204 (b s : Nat) : xall (fun _ a => xBm a) 4 b s codex_204 := And.intro (mocodex_196 b (2 * s)) (mocodex_203 (b + s) (2 * s))
theorem mocodex_205 (b s : Nat) : xall (fun _ a => xBm a) 1 b s codex_205 := And.intro mobx_88 mobx_1112
theorem mocodex_206 (b s : Nat) : xall (fun _ a => xBm a) 1 b s codex_206 := And.intro mobx_600 mobx_no
theorem mocodex_207 (b s : Nat) : xall (fun _ a => xBm a) 2 b s codex_207 := And.intro (mocodex_205 b (2 * s)) (mocodex_206 (b + s) (2 * s))
theorem mocodex_208 (b s : Nat) : xall (fun _ a => xBm a) 1 b s codex_208 := And.intro mobx_344 mobx_no
theorem mocodex_209 (b s : Nat) : xall (fun _ a => xBm a) 1 b s codex_209 := And.intro mobx_856 mobx_no
theorem mocodex_210 (b s : Nat) : xall (fun _ a => xBm a) 2 b s codex_210 := And.intro (mocodex_208 b (2 * s)) (mocodex_209 (b + s) (2 * s))
theorem mocodex_211 (b s : Nat) : xall (fun _ a => xBm a) 3 b s codex_211 := And.intro (mocodex_207 b (2 * s)) (mocodex_210 (b + s) (2 * s))
theorem mocodex_212 (b s : Nat) : xall (fun _ a => xBm a) 1 b s codex_212 := And.intro mobx_216 mobx_no
theorem mocodex_213 (b s : Nat) : xall (fun _ a => xBm a) 1 b s codex_213 := And.intro mobx_728 mobx_no
theorem mocodex_214 (b s : Nat) : xall (fun _ a => xBm a) 2 b s codex_214 := And.intro (mocodex_212 b (2 * s)) (mocodex_213 (b + s) (2 * s))
theorem mocodex_215 (b s : Nat) : xall (fun _ a => xBm a) 1 b s codex_215 := And.intro mobx_472 mobx_no
theorem mocodex_216 (b s : Nat) : xall (fun _ a => xBm a) 1 b s codex_216 := And.intro mobx_984 mobx_no
theorem mocodex_217 (b s : Nat) : xall (fun _ a => xBm a) 2 b s codex_217 := And.intro (mocodex_215 b (2 * s)) (mocodex_216 (b + s) (2 * s))
theorem mocodex_218 (b s : Nat) : xall (fun _ a => xBm a) 3 b s codex_218 := And.intro (mocodex_214 b (2 * s)) (mocodex_217 (b + s) (2 * s))
theorem mocodex_219 (b s : Nat) : xall (fun _ a => xBm a) 4 b s codex_219 := And.intro (mocodex_211 b (2 * s)) (mocodex_218 (b + s) (2 * s))
theorem mocodex_220 (b s : Nat) : xall (fun _ a => xBm a) 5 b s codex_220 := And.intro (mocodex_204 b (2 * s)) (mocodex_219 (b + s) (2 * s))
theorem mocodex_221 (b s : Nat) : xall (fun _ a => xBm a) 1 b s codex_221 := And.intro mobx_56 mobx_1080
theorem mocodex_222 (b s : Nat) : xall (fun _ a => xBm a) 1 b s codex_222 := And.intro mobx_568 mobx_no
theorem mocodex_223 (b s : Nat) : xall (fun _ a => xBm a) 2 b s codex_223 := And.intro (mocodex_221 b (2 * s)) (mocodex_222 (b + s) (2 * s))
theorem mocodex_224 (b s : Nat) : xall (fun _ a => xBm a) 1 b s codex_224 := And.intro mobx_312 mobx_no
theorem mocodex_225 (b s : Nat) : xall (fun _ a => xBm a) 1 b s codex_225 := And.intro mobx_824 mobx_no
theorem mocodex_226 (b s : Nat) : xall (fun _ a => xBm a) 2 b s codex_226 := And.intro (mocodex_224 b (2 * s)) (mocodex_225 (b + s) (2 * s))
theorem mocodex_227 (b s : Nat) : xall (fun _ a => xBm a) 3 b s codex_227 := And.intro (mocodex_223 b (2 * s)) (mocodex_226 (b + s) (2 * s))
theorem mocodex_228 (b s : Nat) : xall (fun _ a => xBm a) 1 b s codex_228 := And.intro mobx_184 mobx_no
theorem mocodex_229 (b s : Nat) : xall (fun _ a => xBm a) 1 b s codex_229 := And.intro mobx_696 mobx_no
theorem mocodex_230 (b s : Nat) : xall (fun _ a => xBm a) 2 b s codex_230 := And.intro (mocodex_228 b (2 * s)) (mocodex_229 (b + s) (2 * s))
theorem mocodex_231 (b s : Nat) : xall (fun _ a => xBm a) 1 b s codex_231 := And.intro mobx_440 mobx_no
theorem mocodex_232 (b s : Nat) : xall (fun _ a => xBm a) 1 b s codex_232 := And.intro mobx_952 mobx_no
theorem mocodex_233 (b s : Nat) : xall (fun _ a => xBm a) 2 b s codex_233 := And.intro (mocodex_231 b (2 * s)) (mocodex_232 (b + s) (2 * s))
theorem mocodex_234 (b s : Nat) : xall (fun _ a => xBm a) 3 b s codex_234 := And.intro (mocodex_230 b (2 * s)) (mocodex_233 (b + s) (2 * s))
theorem mocodex_235 (b s : Nat) : xall (fun _ a => xBm a) 4 b s codex_235 := And.intro (mocodex_227 b (2 * s)) (mocodex_234 (b + s) (2 * s))
theorem mocodex_236 (b s : Nat) : xall (fun _ a => xBm a) 1 b s codex_236 := And.intro mobx_120 mobx_1144
theorem mocodex_237 (b s : Nat) : xall (fun _ a => xBm a) 1 b s codex_237 := And.intro mobx_632 mobx_no
theorem mocodex_238 (b s : Nat) : xall (fun _ a => xBm a) 2 b s codex_238 := And.intro (mocodex_236 b (2 * s)) (mocodex_237 (b + s) (2 * s))
theorem mocodex_239 (b s : Nat) : xall (fun _ a => xBm a) 1 b s codex_239 := And.intro mobx_376 mobx_no
theorem mocodex_240 (b s : Nat) : xall (fun _ a => xBm a) 1 b s codex_240 := And.intro mobx_888 mobx_no
theorem mocodex_241 (b s : Nat) : xall (fun _ a => xBm a) 2 b s codex_241 := And.intro (mocodex_239 b (2 * s)) (mocodex_240 (b + s) (2 * s))
theorem mocodex_242 (b s : Nat) : xall (fun _ a => xBm a) 3 b s codex_242 := And.intro (mocodex_238 b (2 * s)) (mocodex_241 (b + s) (2 * s))
theorem mocodex_243 (b s : Nat) : xall (fun _ a => xBm a) 1 b s codex_243 := And.intro mobx_248 mobx_no
theorem mocodex_244 (b s : Nat) : xall (fun _ a => xBm a) 1 b s codex_244 := And.intro mobx_760 mobx_no
theorem mocodex_245 (b s : Nat) : xall (fun _ a => xBm a) 2 b s codex_245 := And.intro (mocodex_243 b (2 * s)) (mocodex_244 (b + s) (2 * s))
theorem mocodex_246 (b s : Nat) : xall (fun _ a => xBm a) 1 b s codex_246 := And.intro mobx_504 mobx_no
theorem mocodex_247 (b s : Nat) : xall (fun _ a => xBm a) 1 b s codex_247 := And.intro mobx_1016 mobx_no
theorem mocodex_248 (b s : Nat) : xall (fun _ a => xBm a) 2 b s codex_248 := And.intro (mocodex_246 b (2 * s)) (mocodex_247 (b + s) (2 * s))
theorem mocodex_249 (b s : Nat) : xall (fun _ a => xBm a) 3 b s codex_249 := And.intro (mocodex_245 b (2 * s)) (mocodex_248 (b + s) (2 * s))
theorem mocodex_250 (b s : Nat) : xall (fun _ a => xBm a) 4 b s codex_250 := And.intro (mocodex_242 b (2 * s)) (mocodex_249 (b + s) (2 * s))
theorem mocodex_251 (b s : Nat) : xall (fun _ a => xBm a) 5 b s codex_251 := And.intro (mocodex_235 b (2 * s)) (mocodex_250 (b + s) (2 * s))
theorem mocodex_252 (b s : Nat) : xall (fun _ a => xBm a) 6 b s codex_252 := And.intro (mocodex_220 b (2 * s)) (mocodex_251 (b + s) (2 * s))
theorem mocodex_253 (b s : Nat) : xall (fun _ a => xBm a) 7 b s codex_253 := And.intro (mocodex_189 b (2 * s)) (mocodex_252 (b + s) (2 * s))
theorem mocodex_254 (b s : Nat) : xall (fun _ a => xBm a) 8 b s codex_254 := And.intro (mocodex_126 b (2 * s)) (mocodex_253 (b + s) (2 * s))
theorem mocodex_255 (b s : Nat) : xall (fun _ a => xBm a) 1 b s codex_255 := And.intro mobx_4 mobx_1028
theorem mocodex_256 (b s : Nat) : xall (fun _ a => xBm a) 1 b s codex_256 := And.intro mobx_516 mobx_no
theorem mocodex_257 (b s : Nat) : xall (fun _ a => xBm a) 2 b s codex_257 := And.intro (mocodex_255 b (2 * s)) (mocodex_256 (b + s) (2 * s))
theorem mocodex_258 (b s : Nat) : xall (fun _ a => xBm a) 1 b s codex_258 := And.intro mobx_260 mobx_no
theorem mocodex_259 (b s : Nat) : xall (fun _ a => xBm a) 1 b s codex_259 := And.intro mobx_772 mobx_no
theorem mocodex_260 (b s : Nat) : xall (fun _ a => xBm a) 2 b s codex_260 := And.intro (mocodex_258 b (2 * s)) (mocodex_259 (b + s) (2 * s))
theorem mocodex_261 (b s : Nat) : xall (fun _ a => xBm a) 3 b s codex_261 := And.intro (mocodex_257 b (2 * s)) (mocodex_260 (b + s) (2 * s))
theorem mocodex_262 (b s : Nat) : xall (fun _ a => xBm a) 1 b s codex_262 := And.intro mobx_132 mobx_1156
theorem mocodex_263 (b s : Nat) : xall (fun _ a => xBm a) 1 b s codex_263 := And.intro mobx_644 mobx_no
theorem mocodex_264 (b s : Nat) : xall (fun _ a => xBm a) 2 b s codex_264 := And.intro (mocodex_262 b (2 * s)) (mocodex_263 (b + s) (2 * s))
theorem mocodex_265 (b s : Nat) : xall (fun _ a => xBm a) 1 b s codex_265 := And.intro mobx_388 mobx_no
theorem mocodex_266 (b s : Nat) : xall (fun _ a => xBm a) 1 b s codex_266 := And.intro mobx_900 mobx_no
theorem mocodex_267 (b s : Nat) : xall (fun _ a => xBm a) 2 b s codex_267 := And.intro (mocodex_265 b (2 * s)) (mocodex_266 (b + s) (2 * s))
theorem mocodex_268 (b s : Nat) : xall (fun _ a => xBm a) 3 b s codex_268 := And.intro (mocodex_264 b (2 * s)) (mocodex_267 (b + s) (2 * s))
theorem mocodex_269 (b s : Nat) : xall (fun _ a => xBm a) 4 b s codex_269 := And.intro (mocodex_261 b (2 * s)) (mocodex_268 (b + s) (2 * s))
theorem mocodex_270 (b s : Nat) : xall (fun _ a => xBm a) 1 b s codex_270 := And.intro mobx_68 mobx_1092
theorem mocodex_271 (b s : Nat) : xall (fun _ a => xBm a) 1 b s codex_271 := And.intro mobx_580 mobx_no
theorem mocodex_272 (b s : Nat) : xall (fun _ a => xBm a) 2 b s codex_272 := And.intro (mocodex_270 b (2 * s)) (mocodex_271 (b + s) (2 * s))
theorem mocodex_273 (b s : Nat) : xall (fun _ a => xBm a) 1 b s codex_273 := And.intro mobx_324 mobx_no
theorem mocodex_274 (b s : Nat) : xall (fun _ a => xBm a) 1 b s codex_274 := And.intro mobx_836 mobx_no
theorem mocodex_275 (b s : Nat) : xall (fun _ a => xBm a) 2 b s codex_275 := And.intro (mocodex_273 b (2 * s)) (mocodex_274 (b + s) (2 * s))
theorem mocodex_276 (b s : Nat) : xall (fun _ a => xBm a) 3 b s codex_276 := And.intro (mocodex_272 b (2 * s)) (mocodex_275 (b + s) (2 * s))
theorem mocodex_277 (b s : Nat) : xall (fun _ a => xBm a) 1 b s codex_277 := And.intro mobx_196 mobx_no
theorem mocodex_278 (b s : Nat) : xall (fun _ a => xBm a) 1 b s codex_278 := And.intro mobx_708 mobx_no
theorem mocodex_279 (b s : Nat) : xall (fun _ a => xBm a) 2 b s codex_279 := And.intro (mocodex_277 b (2 * s)) (mocodex_278 (b + s) (2 * s))
theorem mocodex_280 (b s : Nat) : xall (fun _ a => xBm a) 1 b s codex_280 := And.intro mobx_452 mobx_no
theorem mocodex_281 (b s : Nat) : xall (fun _ a => xBm a) 1 b s codex_281 := And.intro mobx_964 mobx_no
theorem mocodex_282 (b s : Nat) : xall (fun _ a => xBm a) 2 b s codex_282 := And.intro (mocodex_280 b (2 * s)) (mocodex_281 (b + s) (2 * s))
theorem mocodex_283 (b s : Nat) : xall (fun _ a => xBm a) 3 b s codex_283 := And.intro (mocodex_279 b (2 * s)) (mocodex_282 (b + s) (2 * s))
theorem mocodex_284 (b s : Nat) : xall (fun _ a => xBm a) 4 b s codex_284 := And.intro (mocodex_276 b (2 * s)) (mocodex_283 (b + s) (2 * s))
theorem mocodex_285 (b s : Nat) : xall (fun _ a => xBm a) 5 b s codex_285 := And.intro (mocodex_269 b (2 * s)) (mocodex_284 (b + s) (2 * s))
theorem mocodex_286 (b s : Nat) : xall (fun _ a => xBm a) 1 b s codex_286 := And.intro mobx_36 mobx_1060
theorem mocodex_287 (b s : Nat) : xall (fun _ a => xBm a) 1 b s codex_287 := And.intro mobx_548 mobx_no
theorem mocodex_288 (b s : Nat) : xall (fun _ a => xBm a) 2 b s codex_288 := And.intro (mocodex_286 b (2 * s)) (mocodex_287 (b + s) (2 * s))
theorem mocodex_289 (b s : Nat) : xall (fun _ a => xBm a) 1 b s codex_289 := And.intro mobx_292 mobx_no
theorem mocodex_290 (b s : Nat) : xall (fun _ a => xBm a) 1 b s codex_290 := And.intro mobx_804 mobx_no
theorem mocodex_291 (b s : Nat) : xall (fun _ a => xBm a) 2 b s codex_291 := And.intro (mocodex_289 b (2 * s)) (mocodex_290 (b + s) (2 * s))
theorem mocodex_292 (b s : Nat) : xall (fun _ a => xBm a) 3 b s codex_292 := And.intro (mocodex_288 b (2 * s)) (mocodex_291 (b + s) (2 * s))
theorem mocodex_293 (b s : Nat) : xall (fun _ a => xBm a) 1 b s codex_293 := And.intro mobx_164 mobx_1188
theorem mocodex_294 (b s : Nat) : xall (fun _ a => xBm a) 1 b s codex_294 := And.intro mobx_676 mobx_no
theorem mocodex_295 (b s : Nat) : xall (fun _ a => xBm a) 2 b s codex_295 := And.intro (mocodex_293 b (2 * s)) (mocodex_294 (b + s) (2 * s))
theorem mocodex_296 (b s : Nat) : xall (fun _ a => xBm a) 1 b s codex_296 := And.intro mobx_420 mobx_no
theorem mocodex_297 (b s : Nat) : xall (fun _ a => xBm a) 1 b s codex_297 := And.intro mobx_932 mobx_no
theorem mocodex_298 (b s : Nat) : xall (fun _ a => xBm a) 2 b s codex_298 := And.intro (mocodex_296 b (2 * s)) (mocodex_297 (b + s) (2 * s))
theorem mocodex_299 (b s : Nat) : xall (fun _ a => xBm a) 3 b s codex_299 := And.intro (mocodex_295 b (2 * s)) (mocodex_298 (b + s) (2 * s))
theorem mocodex_300 (b s : Nat) : xall (fun _ a => xBm a) 4 b s codex_300 := And.intro (mocodex_292 b (2 * s)) (mocodex_299 (b + s) (2 * s))
theorem mocodex_301 (b s : Nat) : xall (fun _ a => xBm a) 1 b s codex_301 := And.intro mobx_100 mobx_1124
theorem mocodex_302 (b s : Nat) : xall (fun _ a => xBm a) 1 b s codex_302 := And.intro mobx_612 mobx_no
theorem mocodex_303 (b s : Nat) : xall (fun _ a => xBm a) 2 b s codex_303 := And.intro (mocodex_301 b (2 * s)) (mocodex_302 (b + s) (2 * s))
theorem mocodex_304 (b s : Nat) : xall (fun _ a => xBm a) 1 b s codex_304 := And.intro mobx_356 mobx_no
theorem mocodex_305 (b s : Nat) : xall (fun _ a => xBm a) 1 b s codex_305 := And.intro mobx_868 mobx_no
theorem mocodex_306 (b s : Nat) : xall (fun _ a => xBm a) 2 b s codex_306 := And.intro (mocodex_304 b (2 * s)) (mocodex_305 (b + s) (2 * s))
theorem mocodex_307 (b s : Nat) : xall (fun _ a => xBm a) 3 b s codex_307 := And.intro (mocodex_303 b (2 * s)) (mocodex_306 (b + s) (2 * s))
theorem mocodex_308 (b s : Nat) : xall (fun _ a => xBm a) 1 b s codex_308 := And.intro mobx_228 mobx_no
theorem mocodex_309 (b s : Nat) : xall (fun _ a => xBm a) 1 b s codex_309 := And.intro mobx_740 mobx_no
theorem mocodex_310 (b s : Nat) : xall (fun _ a => xBm a) 2 b s codex_310 := And.intro (mocodex_308 b (2 * s)) (mocodex_309 (b + s) (2 * s))
theorem mocodex_311 (b s : Nat) : xall (fun _ a => xBm a) 1 b s codex_311 := And.intro mobx_484 mobx_no
theorem mocodex_312 (b s : Nat) : xall (fun _ a => xBm a) 1 b s codex_312 := And.intro mobx_996 mobx_no
theorem mocodex_313 (b s : Nat) : xall (fun _ a => xBm a) 2 b s codex_313 := And.intro (mocodex_311 b (2 * s)) (mocodex_312 (b + s) (2 * s))
theorem mocodex_314 (b s : Nat) : xall (fun _ a => xBm a) 3 b s codex_314 := And.intro (mocodex_310 b (2 * s)) (mocodex_313 (b + s) (2 * s))
theorem mocodex_315 (b s : Nat) : xall (fun _ a => xBm a) 4 b s codex_315 := And.intro (mocodex_307 b (2 * s)) (mocodex_314 (b + s) (2 * s))
theorem mocodex_316 (b s : Nat) : xall (fun _ a => xBm a) 5 b s codex_316 := And.intro (mocodex_300 b (2 * s)) (mocodex_315 (b + s) (2 * s))
theorem mocodex_317 (b s : Nat) : xall (fun _ a => xBm a) 6 b s codex_317 := And.intro (mocodex_285 b (2 * s)) (mocodex_316 (b + s) (2 * s))
theorem mocodex_318 (b s : Nat) : xall (fun _ a => xBm a) 1 b s codex_318 := And.intro mobx_20 mobx_1044
theorem mocodex_319 (b s : Nat) : xall (fun _ a => xBm a) 1 b s codex_319 := And.intro mobx_532 mobx_no
theorem mocodex_320 (b s : Nat) : xall (fun _ a => xBm a) 2 b s codex_320 := And.intro (mocodex_318 b (2 * s)) (mocodex_319 (b + s) (2 * s))
theorem mocodex_321 (b s : Nat) : xall (fun _ a => xBm a) 1 b s codex_321 := And.intro mobx_276 mobx_no
theorem mocodex_322 (b s : Nat) : xall (fun _ a => xBm a) 1 b s codex_322 := And.intro mobx_788 mobx_no
theorem mocodex_323 (b s : Nat) : xall (fun _ a => xBm a) 2 b s codex_323 := And.intro (mocodex_321 b (2 * s)) (mocodex_322 (b + s) (2 * s))
theorem mocodex_324 (b s : Nat) : xall (fun _ a => xBm a) 3 b s codex_324 := And.intro (mocodex_320 b (2 * s)) (mocodex_323 (b + s) (2 * s))
theorem mocodex_325 (b s : Nat) : xall (fun _ a => xBm a) 1 b s codex_325 := And.intro mobx_148 mobx_1172
theorem mocodex_326 (b s : Nat) : xall (fun _ a => xBm a) 1 b s codex_326 := And.intro mobx_660 mobx_no
theorem mocodex_327 (b s : Nat) : xall (fun _ a => xBm a) 2 b s codex_327 := And.intro (mocodex_325 b (2 * s)) (mocodex_326 (b + s) (2 * s))
theorem mocodex_328 (b s : Nat) : xall (fun _ a => xBm a) 1 b s codex_328 := And.intro mobx_404 mobx_no
theorem mocodex_329 (b s : Nat) : xall (fun _ a => xBm a) 1 b s codex_329 := And.intro mobx_916 mobx_no
theorem mocodex_330 (b s : Nat) : xall (fun _ a => xBm a) 2 b s codex_330 := And.intro (mocodex_328 b (2 * s)) (mocodex_329 (b + s) (2 * s))
theorem mocodex_331 (b s : Nat) : xall (fun _ a => xBm a) 3 b s codex_331 := And.intro (mocodex_327 b (2 * s)) (mocodex_330 (b + s) (2 * s))
theorem mocodex_332 (b s : Nat) : xall (fun _ a => xBm a) 4 b s codex_332 := And.intro (mocodex_324 b (2 * s)) (mocodex_331 (b + s) (2 * s))
theorem mocodex_333 (b s : Nat) : xall (fun _ a => xBm a) 1 b s codex_333 := And.intro mobx_84 mobx_1108
theorem mocodex_334 (b s : Nat) : xall (fun _ a => xBm a) 1 b s codex_334 := And.intro mobx_596 mobx_no
theorem mocodex_335 (b s : Nat) : xall (fun _ a => xBm a) 2 b s codex_335 := And.intro (mocodex_333 b (2 * s)) (mocodex_334 (b + s) (2 * s))
theorem mocodex_336 (b s : Nat) : xall (fun _ a => xBm a) 1 b s codex_336 := And.intro mobx_340 mobx_no
theorem mocodex_337 (b s : Nat) : xall (fun _ a => xBm a) 1 b s codex_337 := And.intro mobx_852 mobx_no
theorem mocodex_338 (b s : Nat) : xall (fun _ a => xBm a) 2 b s codex_338 := And.intro (mocodex_336 b (2 * s)) (mocodex_337 (b + s) (2 * s))
theorem mocodex_339 (b s : Nat) : xall (fun _ a => xBm a) 3 b s codex_339 := And.intro (mocodex_335 b (2 * s)) (mocodex_338 (b + s) (2 * s))
theorem mocodex_340 (b s : Nat) : xall (fun _ a => xBm a) 1 b s codex_340 := And.intro mobx_212 mobx_no
theorem mocodex_341 (b s : Nat) : xall (fun _ a => xBm a) 1 b s codex_341 := And.intro mobx_724 mobx_no
theorem mocodex_342 (b s : Nat) : xall (fun _ a => xBm a) 2 b s codex_342 := And.intro (mocodex_340 b (2 * s)) (mocodex_341 (b + s) (2 * s))
theorem mocodex_343 (b s : Nat) : xall (fun _ a => xBm a) 1 b s codex_343 := And.intro mobx_468 mobx_no
theorem mocodex_344 (b s : Nat) : xall (fun _ a => xBm a) 1 b s codex_344 := And.intro mobx_980 mobx_no
theorem mocodex_345 (b s : Nat) : xall (fun _ a => xBm a) 2 b s codex_345 := And.intro (mocodex_343 b (2 * s)) (mocodex_344 (b + s) (2 * s))
theorem mocodex_346 (b s : Nat) : xall (fun _ a => xBm a) 3 b s codex_346 := And.intro (mocodex_342 b (2 * s)) (mocodex_345 (b + s) (2 * s))
theorem mocodex_347 (b s : Nat) : xall (fun _ a => xBm a) 4 b s codex_347 := And.intro (mocodex_339 b (2 * s)) (mocodex_346 (b + s) (2 * s))
theorem mocodex_348 (b s : Nat) : xall (fun _ a => xBm a) 5 b s codex_348 := And.intro (mocodex_332 b (2 * s)) (mocodex_347 (b + s) (2 * s))
theorem mocodex_349 (b s : Nat) : xall (fun _ a => xBm a) 1 b s codex_349 := And.intro mobx_52 mobx_1076
theorem mocodex_350 (b s : Nat) : xall (fun _ a => xBm a) 1 b s codex_350 := And.intro mobx_564 mobx_no
theorem mocodex_351 (b s : Nat) : xall (fun _ a => xBm a) 2 b s codex_351 := And.intro (mocodex_349 b (2 * s)) (mocodex_350 (b + s) (2 * s))
theorem mocodex_352 (b s : Nat) : xall (fun _ a => xBm a) 1 b s codex_352 := And.intro mobx_308 mobx_no
theorem mocodex_353 (b s : Nat) : xall (fun _ a => xBm a) 1 b s codex_353 := And.intro mobx_820 mobx_no
theorem mocodex_354 (b s : Nat) : xall (fun _ a => xBm a) 2 b s codex_354 := And.intro (mocodex_352 b (2 * s)) (mocodex_353 (b + s) (2 * s))
theorem mocodex_355 (b s : Nat) : xall (fun _ a => xBm a) 3 b s codex_355 := And.intro (mocodex_351 b (2 * s)) (mocodex_354 (b + s) (2 * s))
theorem mocodex_356 (b s : Nat) : xall (fun _ a => xBm a) 1 b s codex_356 := And.intro mobx_180 mobx_no
theorem mocodex_357 (b s : Nat) : xall (fun _ a => xBm a) 1 b s codex_357 := And.intro mobx_692 mobx_no
theorem mocodex_358 (b s : Nat) : xall (fun _ a => xBm a) 2 b s codex_358 := And.intro (mocodex_356 b (2 * s)) (mocodex_357 (b + s) (2 * s))
theorem mocodex_359 (b s : Nat) : xall (fun _ a => xBm a) 1 b s codex_359 := And.intro mobx_436 mobx_no
theorem mocodex_360 (b s : Nat) : xall (fun _ a => xBm a) 1 b s codex_360 := And.intro mobx_948 mobx_no
theorem mocodex_361 (b s : Nat) : xall (fun _ a => xBm a) 2 b s codex_361 := And.intro (mocodex_359 b (2 * s)) (mocodex_360 (b + s) (2 * s))
theorem mocodex_362 (b s : Nat) : xall (fun _ a => xBm a) 3 b s codex_362 := And.intro (mocodex_358 b (2 * s)) (mocodex_361 (b + s) (2 * s))
theorem mocodex_363 (b s : Nat) : xall (fun _ a => xBm a) 4 b s codex_363 := And.intro (mocodex_355 b (2 * s)) (mocodex_362 (b + s) (2 * s))
theorem mocodex_364 (b s : Nat) : xall (fun _ a => xBm a) 1 b s codex_364 := And.intro mobx_116 mobx_1140
theorem mocodex_365 (b s : Nat) : xall (fun _ a => xBm a) 1 b s codex_365 := And.intro mobx_628 mobx_no
theorem mocodex_366 (b s : Nat) : xall (fun _ a => xBm a) 2 b s codex_366 := And.intro (mocodex_364 b (2 * s)) (mocodex_365 (b + s) (2 * s))
theorem mocodex_367 (b s : Nat) : xall (fun _ a => xBm a) 1 b s codex_367 := And.intro mobx_372 mobx_no
theorem mocodex_368 (b s : Nat) : xall (fun _ a => xBm a) 1 b s codex_368 := And.intro mobx_884 mobx_no
theorem mocodex_369 (b s : Nat) : xall (fun _ a => xBm a) 2 b s codex_369 := And.intro (mocodex_367 b (2 * s)) (mocodex_368 (b + s) (2 * s))
theorem mocodex_370 (b s : Nat) : xall (fun _ a => xBm a) 3 b s codex_370 := And.intro (mocodex_366 b (2 * s)) (mocodex_369 (b + s) (2 * s))
theorem mocodex_371 (b s : Nat) : xall (fun _ a => xBm a) 1 b s codex_371 := And.intro mobx_244 mobx_no
theorem mocodex_372 (b s : Nat) : xall (fun _ a => xBm a) 1 b s codex_372 := And.intro mobx_756 mobx_no
theorem mocodex_373 (b s : Nat) : xall (fun _ a => xBm a) 2 b s codex_373 := And.intro (mocodex_371 b (2 * s)) (mocodex_372 (b + s) (2 * s))
theorem mocodex_374 (b s : Nat) : xall (fun _ a => xBm a) 1 b s codex_374 := And.intro mobx_500 mobx_no
theorem mocodex_375 (b s : Nat) : xall (fun _ a => xBm a) 1 b s codex_375 := And.intro mobx_1012 mobx_no
theorem mocodex_376 (b s : Nat) : xall (fun _ a => xBm a) 2 b s codex_376 := And.intro (mocodex_374 b (2 * s)) (mocodex_375 (b + s) (2 * s))
theorem mocodex_377 (b s : Nat) : xall (fun _ a => xBm a) 3 b s codex_377 := And.intro (mocodex_373 b (2 * s)) (mocodex_376 (b + s) (2 * s))
theorem mocodex_378 (b s : Nat) : xall (fun _ a => xBm a) 4 b s codex_378 := And.intro (mocodex_370 b (2 * s)) (mocodex_377 (b + s) (2 * s))
theorem mocodex_379 (b s : Nat) : xall (fun _ a => xBm a) 5 b s codex_379 := And.intro (mocodex_363 b (2 * s)) (mocodex_378 (b + s) (2 * s))
theorem mocodex_380 (b s : Nat) : xall (fun _ a => xBm a) 6 b s codex_380 := And.intro (mocodex_348 b (2 * s)) (mocodex_379 (b + s) (2 * s))
theorem mocodex_381 (b s : Nat) : xall (fun _ a => xBm a) 7 b s codex_381 := And.intro (mocodex_317 b (2 * s)) (mocodex_380 (b + s) (2 * s))
theorem mocodex_382 (b s : Nat) : xall (fun _ a => xBm a) 1 b s codex_382 := And.intro mobx_12 mobx_1036
theorem mocodex_383 (b s : Nat) : xall (fun _ a => xBm a) 1 b s codex_383 := And.intro mobx_524 mobx_no
theorem mocodex_384 (b s : Nat) : xall (fun _ a => xBm a) 2 b s codex_384 := And.intro (mocodex_382 b (2 * s)) (mocodex_383 (b + s) (2 * s))
theorem mocodex_385 (b s : Nat) : xall (fun _ a => xBm a) 1 b s codex_385 := And.intro mobx_268 mobx_no
theorem mocodex_386 (b s : Nat) : xall (fun _ a => xBm a) 1 b s codex_386 := And.intro mobx_780 mobx_no
theorem mocodex_387 (b s : Nat) : xall (fun _ a => xBm a) 2 b s codex_387 := And.intro (mocodex_385 b (2 * s)) (mocodex_386 (b + s) (2 * s))
theorem mocodex_388 (b s : Nat) : xall (fun _ a => xBm a) 3 b s codex_388 := And.intro (mocodex_384 b (2 * s)) (mocodex_387 (b + s) (2 * s))
theorem mocodex_389 (b s : Nat) : xall (fun _ a => xBm a) 1 b s codex_389 := And.intro mobx_140 mobx_1164
theorem mocodex_390 (b s : Nat) : xall (fun _ a => xBm a) 1 b s codex_390 := And.intro mobx_652 mobx_no
theorem mocodex_391 (b s : Nat) : xall (fun _ a => xBm a) 2 b s codex_391 := And.intro (mocodex_389 b (2 * s)) (mocodex_390 (b + s) (2 * s))
theorem mocodex_392 (b s : Nat) : xall (fun _ a => xBm a) 1 b s codex_392 := And.intro mobx_396 mobx_no
theorem mocodex_393 (b s : Nat) : xall (fun _ a => xBm a) 1 b s codex_393 := And.intro mobx_908 mobx_no
theorem mocodex_394 (b s : Nat) : xall (fun _ a => xBm a) 2 b s codex_394 := And.intro (mocodex_392 b (2 * s)) (mocodex_393 (b + s) (2 * s))
theorem mocodex_395 (b s : Nat) : xall (fun _ a => xBm a) 3 b s codex_395 := And.intro (mocodex_391 b (2 * s)) (mocodex_394 (b + s) (2 * s))
theorem mocodex_396 (b s : Nat) : xall (fun _ a => xBm a) 4 b s codex_396 := And.intro (mocodex_388 b (2 * s)) (mocodex_395 (b + s) (2 * s))
theorem mocodex_397 (b s : Nat) : xall (fun _ a => xBm a) 1 b s codex_397 := And.intro mobx_76 mobx_1100
theorem mocodex_398 (b s : Nat) : xall (fun _ a => xBm a) 1 b s codex_398 := And.intro mobx_588 mobx_no
theorem mocodex_399 (b s : Nat) : xall (fun _ a => xBm a) 2 b s codex_399 := And.intro (mocodex_397 b (2 * s)) (mocodex_398 (b + s) (2 * s))
theorem mocodex_400 (b s : Nat) : xall (fun _ a => xBm a) 1 b s codex_400 := And.intro mobx_332 mobx_no
theorem mocodex_401 (b s : Nat) : xall (fun _ a => xBm a) 1 b s codex_401 := And.intro mobx_844 mobx_no
theorem mocodex_402 (b s : Nat) : xall (fun _ a => xBm a) 2 b s codex_402 := And.intro (mocodex_400 b (2 * s)) (mocodex_401 (b + s) (2 * s))
theorem mocodex_403 (b s : Nat) : xall (fun _ a => xBm a) 3 b s codex_403 := And.intro (mocodex_399 b (2 * s)) (mocodex_402 (b + s) (2 * s))
theorem mocodex_404 (b s : Nat) : xall (fun _ a => xBm a) 1 b s codex_404 := And.intro mobx_204 mobx_no
theorem mocodex_405 (b s : Nat) : xall (fun _ a => xBm a) 1 b s codex_405 := And.intro mobx_716 mobx_no
theorem mocodex_406 (b s : Nat) : xall (fun _ a => xBm a) 2 b s codex_406 := And.intro (mocodex_404 b (2 * s)) (mocodex_405 (b + s) (2 * s))
theorem mocodex_407 (b s : Nat) : xall (fun _ a => xBm a) 1 b s codex_407 := And.intro mobx_460 mobx_no
theorem mocodex_408 (b s : Nat) : xall (fun _ a => xBm a) 1 b s codex_408 := And.intro mobx_972 mobx_no
theorem mocodex_409 (b s : Nat) : xall (fun _ a => xBm a) 2 b s codex_409 := And.intro (mocodex_407 b (2 * s)) (mocodex_408 (b + s) (2 * s))
theorem mocodex_410 (b s : Nat) : xall (fun _ a => xBm a) 3 b s codex_410 := And.intro (mocodex_406 b (2 * s)) (mocodex_409 (b + s) (2 * s))
theorem mocodex_411 (b s : Nat) : xall (fun _ a => xBm a) 4 b s codex_411 := And.intro (mocodex_403 b (2 * s)) (mocodex_410 (b + s) (2 * s))
theorem mocodex_412 (b s : Nat) : xall (fun _ a => xBm a) 5 b s codex_412 := And.intro (mocodex_396 b (2 * s)) (mocodex_411 (b + s) (2 * s))
theorem mocodex_413 (b s : Nat) : xall (fun _ a => xBm a) 1 b s codex_413 := And.intro mobx_44 mobx_1068
theorem mocodex_414 (b s : Nat) : xall (fun _ a => xBm a) 1 b s codex_414 := And.intro mobx_556 mobx_no
theorem mocodex_415 (b s : Nat) : xall (fun _ a => xBm a) 2 b s codex_415 := And.intro (mocodex_413 b (2 * s)) (mocodex_414 (b + s) (2 * s))
theorem mocodex_416 (b s : Nat) : xall (fun _ a => xBm a) 1 b s codex_416 := And.intro mobx_300 mobx_no
theorem mocodex_417 (b s : Nat) : xall (fun _ a => xBm a) 1 b s codex_417 := And.intro mobx_812 mobx_no
theorem mocodex_418 (b s : Nat) : xall (fun _ a => xBm a) 2 b s codex_418 := And.intro (mocodex_416 b (2 * s)) (mocodex_417 (b + s) (2 * s))
theorem mocodex_419 (b s : Nat) : xall (fun _ a => xBm a) 3 b s codex_419 := And.intro (mocodex_415 b (2 * s)) (mocodex_418 (b + s) (2 * s))
theorem mocodex_420 (b s : Nat) : xall (fun _ a => xBm a) 1 b s codex_420 := And.intro mobx_172 mobx_no
theorem mocodex_421 (b s : Nat) : xall (fun _ a => xBm a) 1 b s codex_421 := And.intro mobx_684 mobx_no
theorem mocodex_422 (b s : Nat) : xall (fun _ a => xBm a) 2 b s codex_422 := And.intro (mocodex_420 b (2 * s)) (mocodex_421 (b + s) (2 * s))
theorem mocodex_423 (b s : Nat) : xall (fun _ a => xBm a) 1 b s codex_423 := And.intro mobx_428 mobx_no
theorem mocodex_424 (b s : Nat) : xall (fun _ a => xBm a) 1 b s codex_424 := And.intro mobx_940 mobx_no
theorem mocodex_425 (b s : Nat) : xall (fun _ a => xBm a) 2 b s codex_425 := And.intro (mocodex_423 b (2 * s)) (mocodex_424 (b + s) (2 * s))
theorem mocodex_426 (b s : Nat) : xall (fun _ a => xBm a) 3 b s codex_426 := And.intro (mocodex_422 b (2 * s)) (mocodex_425 (b + s) (2 * s))
theorem mocodex_427 (b s : Nat) : xall (fun _ a => xBm a) 4 b s codex_427 := And.intro (mocodex_419 b (2 * s)) (mocodex_426 (b + s) (2 * s))
theorem mocodex_428 (b s : Nat) : xall (fun _ a => xBm a) 1 b s codex_428 := And.intro mobx_108 mobx_1132
theorem mocodex_429 (b s : Nat) : xall (fun _ a => xBm a) 1 b s codex_429 := And.intro mobx_620 mobx_no
theorem mocodex_430 (b s : Nat) : xall (fun _ a => xBm a) 2 b s codex_430 := And.intro (mocodex_428 b (2 * s)) (mocodex_429 (b + s) (2 * s))
theorem mocodex_431 (b s : Nat) : xall (fun _ a => xBm a) 1 b s codex_431 := And.intro mobx_364 mobx_no
theorem mocodex_432 (b s : Nat) : xall (fun _ a => xBm a) 1 b s codex_432 := And.intro mobx_876 mobx_no
theorem mocodex_433 (b s : Nat) : xall (fun _ a => xBm a) 2 b s codex_433 := And.intro (mocodex_431 b (2 * s)) (mocodex_432 (b + s) (2 * s))
theorem mocodex_434 (b s : Nat) : xall (fun _ a => xBm a) 3 b s codex_434 := And.intro (mocodex_430 b (2 * s)) (mocodex_433 (b + s) (2 * s))
theorem mocodex_435 (b s : Nat) : xall (fun _ a => xBm a) 1 b s codex_435 := And.intro mobx_236 mobx_no
theorem mocodex_436 (b s : Nat) : xall (fun _ a => xBm a) 1 b s codex_436 := And.intro mobx_748 mobx_no
theorem mocodex_437 (b s : Nat) : xall (fun _ a => xBm a) 2 b s codex_437 := And.intro (mocodex_435 b (2 * s)) (mocodex_436 (b + s) (2 * s))
theorem mocodex_438 (b s : Nat) : xall (fun _ a => xBm a) 1 b s codex_438 := And.intro mobx_492 mobx_no
theorem mocodex_439 (b s : Nat) : xall (fun _ a => xBm a) 1 b s codex_439 := And.intro mobx_1004 mobx_no
theorem mocodex_440 (b s : Nat) : xall (fun _ a => xBm a) 2 b s codex_440 := And.intro (mocodex_438 b (2 * s)) (mocodex_439 (b + s) (2 * s))
theorem mocodex_441 (b s : Nat) : xall (fun _ a => xBm a) 3 b s codex_441 := And.intro (mocodex_437 b (2 * s)) (mocodex_440 (b + s) (2 * s))
theorem mocodex_442 (b s : Nat) : xall (fun _ a => xBm a) 4 b s codex_442 := And.intro (mocodex_434 b (2 * s)) (mocodex_441 (b + s) (2 * s))
theorem mocodex_443 (b s : Nat) : xall (fun _ a => xBm a) 5 b s codex_443 := And.intro (mocodex_427 b (2 * s)) (mocodex_442 (b + s) (2 * s))
theorem mocodex_444 (b s : Nat) : xall (fun _ a => xBm a) 6 b s codex_444 := And.intro (mocodex_412 b (2 * s)) (mocodex_443 (b + s) (2 * s))
theorem mocodex_445 (b s : Nat) : xall (fun _ a => xBm a) 1 b s codex_445 := And.intro mobx_28 mobx_1052
theorem mocodex_446 (b s : Nat) : xall (fun _ a => xBm a) 1 b s codex_446 := And.intro mobx_540 mobx_no
theorem mocodex_447 (b s : Nat) : xall (fun _ a => xBm a) 2 b s codex_447 := And.intro (mocodex_445 b (2 * s)) (mocodex_446 (b + s) (2 * s))
theorem mocodex_448 (b s : Nat) : xall (fun _ a => xBm a) 1 b s codex_448 := And.intro mobx_284 mobx_no
theorem mocodex_449 (b s : Nat) : xall (fun _ a => xBm a) 1 b s codex_449 := And.intro mobx_796 mobx_no
theorem mocodex_450 (b s : Nat) : xall (fun _ a => xBm a) 2 b s codex_450 := And.intro (mocodex_448 b (2 * s)) (mocodex_449 (b + s) (2 * s))
theorem mocodex_451 (b s : Nat) : xall (fun _ a => xBm a) 3 b s codex_451 := And.intro (mocodex_447 b (2 * s)) (mocodex_450 (b + s) (2 * s))
theorem mocodex_452 (b s : Nat) : xall (fun _ a => xBm a) 1 b s codex_452 := And.intro mobx_156 mobx_1180
theorem mocodex_453 (b s : Nat) : xall (fun _ a => xBm a) 1 b s codex_453 := And.intro mobx_668 mobx_no
theorem mocodex_454 (b s : Nat) : xall (fun _ a => xBm a) 2 b s codex_454 := And.intro (mocodex_452 b (2 * s)) (mocodex_453 (b + s) (2 * s))
theorem mocodex_455 (b s : Nat) : xall (fun _ a => xBm a) 1 b s codex_455 := And.intro mobx_412 mobx_no
theorem mocodex_456 (b s : Nat) : xall (fun _ a => xBm a) 1 b s codex_456 := And.intro mobx_924 mobx_no
theorem mocodex_457 (b s : Nat) : xall (fun _ a => xBm a) 2 b s codex_457 := And.intro (mocodex_455 b (2 * s)) (mocodex_456 (b + s) (2 * s))
theorem mocodex_458 (b s : Nat) : xall (fun _ a => xBm a) 3 b s codex_458 := And.intro (mocodex_454 b (2 * s)) (mocodex_457 (b + s) (2 * s))
theorem mocodex_459 (b s : Nat) : xall (fun _ a => xBm a) 4 b s codex_459 := And.intro (mocodex_451 b (2 * s)) (mocodex_458 (b + s) (2 * s))
theorem mocodex_460 (b s : Nat) : xall (fun _ a => xBm a) 1 b s codex_460 := And.intro mobx_92 mobx_1116
theorem mocodex_461 (b s : Nat) : xall (fun _ a => xBm a) 1 b s codex_461 := And.intro mobx_604 mobx_no
theorem mocodex_462 (b s : Nat) : xall (fun _ a => xBm a) 2 b s codex_462 := And.intro (mocodex_460 b (2 * s)) (mocodex_461 (b + s) (2 * s))
theorem mocodex_463 (b s : Nat) : xall (fun _ a => xBm a) 1 b s codex_463 := And.intro mobx_348 mobx_no
theorem mocodex_464 (b s : Nat) : xall (fun _ a => xBm a) 1 b s codex_464 := And.intro mobx_860 mobx_no
theorem mocodex_465 (b s : Nat) : xall (fun _ a => xBm a) 2 b s codex_465 := And.intro (mocodex_463 b (2 * s)) (mocodex_464 (b + s) (2 * s))
theorem mocodex_466 (b s : Nat) : xall (fun _ a => xBm a) 3 b s codex_466 := And.intro (mocodex_462 b (2 * s)) (mocodex_465 (b + s) (2 * s))
theorem mocodex_467 (b s : Nat) : xall (fun _ a => xBm a) 1 b s codex_467 := And.intro mobx_220 mobx_no
theorem mocodex_468 (b s : Nat) : xall (fun _ a => xBm a) 1 b s codex_468 := And.intro mobx_732 mobx_no
theorem mocodex_469 (b s : Nat) : xall (fun _ a => xBm a) 2 b s codex_469 := And.intro (mocodex_467 b (2 * s)) (mocodex_468 (b + s) (2 * s))
theorem mocodex_470 (b s : Nat) : xall (fun _ a => xBm a) 1 b s codex_470 := And.intro mobx_476 mobx_no
theorem mocodex_471 (b s : Nat) : xall (fun _ a => xBm a) 1 b s codex_471 := And.intro mobx_988 mobx_no
theorem mocodex_472 (b s : Nat) : xall (fun _ a => xBm a) 2 b s codex_472 := And.intro (mocodex_470 b (2 * s)) (mocodex_471 (b + s) (2 * s))
theorem mocodex_473 (b s : Nat) : xall (fun _ a => xBm a) 3 b s codex_473 := And.intro (mocodex_469 b (2 * s)) (mocodex_472 (b + s) (2 * s))
theorem mocodex_474 (b s : Nat) : xall (fun _ a => xBm a) 4 b s codex_474 := And.intro (mocodex_466 b (2 * s)) (mocodex_473 (b + s) (2 * s))
theorem mocodex_475 (b s : Nat) : xall (fun _ a => xBm a) 5 b s codex_475 := And.intro (mocodex_459 b (2 * s)) (mocodex_474 (b + s) (2 * s))
theorem mocodex_476 (b s : Nat) : xall (fun _ a => xBm a) 1 b s codex_476 := And.intro mobx_60 mobx_1084
theorem mocodex_477 (b s : Nat) : xall (fun _ a => xBm a) 1 b s codex_477 := And.intro mobx_572 mobx_no
theorem mocodex_478 (b s : Nat) : xall (fun _ a => xBm a) 2 b s codex_478 := And.intro (mocodex_476 b (2 * s)) (mocodex_477 (b + s) (2 * s))
theorem mocodex_479 (b s : Nat) : xall (fun _ a => xBm a) 1 b s codex_479 := And.intro mobx_316 mobx_no
theorem mocodex_480 (b s : Nat) : xall (fun _ a => xBm a) 1 b s codex_480 := And.intro mobx_828 mobx_no
theorem mocodex_481 (b s : Nat) : xall (fun _ a => xBm a) 2 b s codex_481 := And.intro (mocodex_479 b (2 * s)) (mocodex_480 (b + s) (2 * s))
theorem mocodex_482 (b s : Nat) : xall (fun _ a => xBm a) 3 b s codex_482 := And.intro (mocodex_478 b (2 * s)) (mocodex_481 (b + s) (2 * s))
theorem mocodex_483 (b s : Nat) : xall (fun _ a => xBm a) 1 b s codex_483 := And.intro mobx_188 mobx_no
theorem mocodex_484 (b s : Nat) : xall (fun _ a => xBm a) 1 b s codex_484 := And.intro mobx_700 mobx_no
theorem mocodex_485 (b s : Nat) : xall (fun _ a => xBm a) 2 b s codex_485 := And.intro (mocodex_483 b (2 * s)) (mocodex_484 (b + s) (2 * s))
theorem mocodex_486 (b s : Nat) : xall (fun _ a => xBm a) 1 b s codex_486 := And.intro mobx_444 mobx_no
theorem mocodex_487 (b s : Nat) : xall (fun _ a => xBm a) 1 b s codex_487 := And.intro mobx_956 mobx_no
theorem mocodex_488 (b s : Nat) : xall (fun _ a => xBm a) 2 b s codex_488 := And.intro (mocodex_486 b (2 * s)) (mocodex_487 (b + s) (2 * s))
theorem mocodex_489 (b s : Nat) : xall (fun _ a => xBm a) 3 b s codex_489 := And.intro (mocodex_485 b (2 * s)) (mocodex_488 (b + s) (2 * s))
theorem mocodex_490 (b s : Nat) : xall (fun _ a => xBm a) 4 b s codex_490 := And.intro (mocodex_482 b (2 * s)) (mocodex_489 (b + s) (2 * s))
theorem mocodex_491 (b s : Nat) : xall (fun _ a => xBm a) 1 b s codex_491 := And.intro mobx_124 mobx_1148
theorem mocodex_492 (b s : Nat) : xall (fun _ a => xBm a) 1 b s codex_492 := And.intro mobx_636 mobx_no
theorem mocodex_493 (b s : Nat) : xall (fun _ a => xBm a) 2 b s codex_493 := And.intro (mocodex_491 b (2 * s)) (mocodex_492 (b + s) (2 * s))
theorem mocodex_494 (b s : Nat) : xall (fun _ a => xBm a) 1 b s codex_494 := And.intro mobx_380 mobx_no
theorem mocodex_495 (b s : Nat) : xall (fun _ a => xBm a) 1 b s codex_495 := And.intro mobx_892 mobx_no
theorem mocodex_496 (b s : Nat) : xall (fun _ a => xBm a) 2 b s codex_496 := And.intro (mocodex_494 b (2 * s)) (mocodex_495 (b + s) (2 * s))
theorem mocodex_497 (b s : Nat) : xall (fun _ a => xBm a) 3 b s codex_497 := And.intro (mocodex_493 b (2 * s)) (mocodex_496 (b + s) (2 * s))
theorem mocodex_498 (b s : Nat) : xall (fun _ a => xBm a) 1 b s codex_498 := And.intro mobx_252 mobx_no
theorem mocodex_499 (b s : Nat) : xall (fun _ a => xBm a) 1 b s codex_499 := And.intro mobx_764 mobx_no
theorem mocodex_500 (b s : Nat) : xall (fun _ a => xBm a) 2 b s codex_500 := And.intro (mocodex_498 b (2 * s)) (mocodex_499 (b + s) (2 * s))
theorem mocodex_501 (b s : Nat) : xall (fun _ a => xBm a) 1 b s codex_501 := And.intro mobx_508 mobx_no
theorem mocodex_502 (b s : Nat) : xall (fun _ a => xBm a) 1 b s codex_502 := And.intro mobx_1020 mobx_no
theorem mocodex_503 (b s : Nat) : xall (fun _ a => xBm a) 2 b s codex_503 := And.intro (mocodex_501 b (2 * s)) (mocodex_502 (b + s) (2 * s))
theorem mocodex_504 (b s : Nat) : xall (fun _ a => xBm a) 3 b s codex_504 := And.intro (mocodex_500 b (2 * s)) (mocodex_503 (b + s) (2 * s))
theorem mocodex_505 (b s : Nat) : xall (fun _ a => xBm a) 4 b s codex_505 := And.intro (mocodex_497 b (2 * s)) (mocodex_504 (b + s) (2 * s))
theorem mocodex_506 (b s : Nat) : xall (fun _ a => xBm a) 5 b s codex_506 := And.intro (mocodex_490 b (2 * s)) (mocodex_505 (b + s) (2 * s))
theorem mocodex_507 (b s : Nat) : xall (fun _ a => xBm a) 6 b s codex_507 := And.intro (mocodex_475 b (2 * s)) (mocodex_506 (b + s) (2 * s))
theorem mocodex_508 (b s : Nat) : xall (fun _ a => xBm a) 7 b s codex_508 := And.intro (mocodex_444 b (2 * s)) (mocodex_507 (b + s) (2 * s))
theorem mocodex_509 (b s : Nat) : xall (fun _ a => xBm a) 8 b s codex_509 := And.intro (mocodex_381 b (2 * s)) (mocodex_508 (b + s) (2 * s))
theorem mocodex_510 (b s : Nat) : xall (fun _ a => xBm a) 9 b s codex_510 := And.intro (mocodex_254 b (2 * s)) (mocodex_509 (b + s) (2 * s))
theorem mocodex_511 (b s : Nat) : xall (fun _ a => xBm a) 1 b s codex_511 := And.intro mobx_2 mobx_1026
theorem mocodex_512 (b s : Nat) : xall (fun _ a => xBm a) 1 b s codex_512 := And.intro mobx_514 mobx_no
theorem mocodex_513 (b s : Nat) : xall (fun _ a => xBm a) 2 b s codex_513 := And.intro (mocodex_511 b (2 * s)) (mocodex_512 (b + s) (2 * s))
theorem mocodex_514 (b s : Nat) : xall (fun _ a => xBm a) 1 b s codex_514 := And.intro mobx_258 mobx_no
theorem mocodex_515 (b s : Nat) : xall (fun _ a => xBm a) 1 b s codex_515 := And.intro mobx_770 mobx_no
theorem mocodex_516 (b s : Nat) : xall (fun _ a => xBm a) 2 b s codex_516 := And.intro (mocodex_514 b (2 * s)) (mocodex_515 (b + s) (2 * s))
theorem mocodex_517 (b s : Nat) : xall (fun _ a => xBm a) 3 b s codex_517 := And.intro (mocodex_513 b (2 * s)) (mocodex_516 (b + s) (2 * s))
theorem mocodex_518 (b s : Nat) : xall (fun _ a => xBm a) 1 b s codex_518 := And.intro mobx_130 mobx_1154
theorem mocodex_519 (b s : Nat) : xall (fun _ a => xBm a) 1 b s codex_519 := And.intro mobx_642 mobx_no
theorem mocodex_520 (b s : Nat) : xall (fun _ a => xBm a) 2 b s codex_520 := And.intro (mocodex_518 b (2 * s)) (mocodex_519 (b + s) (2 * s))
theorem mocodex_521 (b s : Nat) : xall (fun _ a => xBm a) 1 b s codex_521 := And.intro mobx_386 mobx_no
theorem mocodex_522 (b s : Nat) : xall (fun _ a => xBm a) 1 b s codex_522 := And.intro mobx_898 mobx_no
theorem mocodex_523 (b s : Nat) : xall (fun _ a => xBm a) 2 b s codex_523 := And.intro (mocodex_521 b (2 * s)) (mocodex_522 (b + s) (2 * s))
theorem mocodex_524 (b s : Nat) : xall (fun _ a => xBm a) 3 b s codex_524 := And.intro (mocodex_520 b (2 * s)) (mocodex_523 (b + s) (2 * s))
theorem mocodex_525 (b s : Nat) : xall (fun _ a => xBm a) 4 b s codex_525 := And.intro (mocodex_517 b (2 * s)) (mocodex_524 (b + s) (2 * s))
theorem mocodex_526 (b s : Nat) : xall (fun _ a => xBm a) 1 b s codex_526 := And.intro mobx_66 mobx_1090
theorem mocodex_527 (b s : Nat) : xall (fun _ a => xBm a) 1 b s codex_527 := And.intro mobx_578 mobx_no
theorem mocodex_528 (b s : Nat) : xall (fun _ a => xBm a) 2 b s codex_528 := And.intro (mocodex_526 b (2 * s)) (mocodex_527 (b + s) (2 * s))
theorem mocodex_529 (b s : Nat) : xall (fun _ a => xBm a) 1 b s codex_529 := And.intro mobx_322 mobx_no
theorem mocodex_530 (b s : Nat) : xall (fun _ a => xBm a) 1 b s codex_530 := And.intro mobx_834 mobx_no
theorem mocodex_531 (b s : Nat) : xall (fun _ a => xBm a) 2 b s codex_531 := And.intro (mocodex_529 b (2 * s)) (mocodex_530 (b + s) (2 * s))
theorem mocodex_532 (b s : Nat) : xall (fun _ a => xBm a) 3 b s codex_532 := And.intro (mocodex_528 b (2 * s)) (mocodex_531 (b + s) (2 * s))
theorem mocodex_533 (b s : Nat) : xall (fun _ a => xBm a) 1 b s codex_533 := And.intro mobx_194 mobx_no
theorem mocodex_534 (b s : Nat) : xall (fun _ a => xBm a) 1 b s codex_534 := And.intro mobx_706 mobx_no
theorem mocodex_535 (b s : Nat) : xall (fun _ a => xBm a) 2 b s codex_535 := And.intro (mocodex_533 b (2 * s)) (mocodex_534 (b + s) (2 * s))
theorem mocodex_536 (b s : Nat) : xall (fun _ a => xBm a) 1 b s codex_536 := And.intro mobx_450 mobx_no
theorem mocodex_537 (b s : Nat) : xall (fun _ a => xBm a) 1 b s codex_537 := And.intro mobx_962 mobx_no
theorem mocodex_538 (b s : Nat) : xall (fun _ a => xBm a) 2 b s codex_538 := And.intro (mocodex_536 b (2 * s)) (mocodex_537 (b + s) (2 * s))
theorem mocodex_539 (b s : Nat) : xall (fun _ a => xBm a) 3 b s codex_539 := And.intro (mocodex_535 b (2 * s)) (mocodex_538 (b + s) (2 * s))
theorem mocodex_540 (b s : Nat) : xall (fun _ a => xBm a) 4 b s codex_540 := And.intro (mocodex_532 b (2 * s)) (mocodex_539 (b + s) (2 * s))
theorem mocodex_541 (b s : Nat) : xall (fun _ a => xBm a) 5 b s codex_541 := And.intro (mocodex_525 b (2 * s)) (mocodex_540 (b + s) (2 * s))
theorem mocodex_542 (b s : Nat) : xall (fun _ a => xBm a) 1 b s codex_542 := And.intro mobx_34 mobx_1058
theorem mocodex_543 (b s : Nat) : xall (fun _ a => xBm a) 1 b s codex_543 := And.intro mobx_546 mobx_no
theorem mocodex_544 (b s : Nat) : xall (fun _ a => xBm a) 2 b s codex_544 := And.intro (mocodex_542 b (2 * s)) (mocodex_543 (b + s) (2 * s))
theorem mocodex_545 (b s : Nat) : xall (fun _ a => xBm a) 1 b s codex_545 := And.intro mobx_290 mobx_no
theorem mocodex_546 (b s : Nat) : xall (fun _ a => xBm a) 1 b s codex_546 := And.intro mobx_802 mobx_no
theorem mocodex_547 (b s : Nat) : xall (fun _ a => xBm a) 2 b s codex_547 := And.intro (mocodex_545 b (2 * s)) (mocodex_546 (b + s) (2 * s))
theorem mocodex_548 (b s : Nat) : xall (fun _ a => xBm a) 3 b s codex_548 := And.intro (mocodex_544 b (2 * s)) (mocodex_547 (b + s) (2 * s))
theorem mocodex_549 (b s : Nat) : xall (fun _ a => xBm a) 1 b s codex_549 := And.intro mobx_162 mobx_1186
theorem mocodex_550 (b s : Nat) : xall (fun _ a => xBm a) 1 b s codex_550 := And.intro mobx_674 mobx_no
theorem mocodex_551 (b s : Nat) : xall (fun _ a => xBm a) 2 b s codex_551 := And.intro (mocodex_549 b (2 * s)) (mocodex_550 (b + s) (2 * s))
theorem mocodex_552 (b s : Nat) : xall (fun _ a => xBm a) 1 b s codex_552 := And.intro mobx_418 mobx_no
theorem mocodex_553 (b s : Nat) : xall (fun _ a => xBm a) 1 b s codex_553 := And.intro mobx_930 mobx_no
theorem mocodex_554 (b s : Nat) : xall (fun _ a => xBm a) 2 b s codex_554 := And.intro (mocodex_552 b (2 * s)) (mocodex_553 (b + s) (2 * s))
theorem mocodex_555 (b s : Nat) : xall (fun _ a => xBm a) 3 b s codex_555 := And.intro (mocodex_551 b (2 * s)) (mocodex_554 (b + s) (2 * s))
theorem mocodex_556 (b s : Nat) : xall (fun _ a => xBm a) 4 b s codex_556 := And.intro (mocodex_548 b (2 * s)) (mocodex_555 (b + s) (2 * s))
theorem mocodex_557 (b s : Nat) : xall (fun _ a => xBm a) 1 b s codex_557 := And.intro mobx_98 mobx_1122
theorem mocodex_558 (b s : Nat) : xall (fun _ a => xBm a) 1 b s codex_558 := And.intro mobx_610 mobx_no
theorem mocodex_559 (b s : Nat) : xall (fun _ a => xBm a) 2 b s codex_559 := And.intro (mocodex_557 b (2 * s)) (mocodex_558 (b + s) (2 * s))
theorem mocodex_560 (b s : Nat) : xall (fun _ a => xBm a) 1 b s codex_560 := And.intro mobx_354 mobx_no
theorem mocodex_561 (b s : Nat) : xall (fun _ a => xBm a) 1 b s codex_561 := And.intro mobx_866 mobx_no
theorem mocodex_562 (b s : Nat) : xall (fun _ a => xBm a) 2 b s codex_562 := And.intro (mocodex_560 b (2 * s)) (mocodex_561 (b + s) (2 * s))
theorem mocodex_563 (b s : Nat) : xall (fun _ a => xBm a) 3 b s codex_563 := And.intro (mocodex_559 b (2 * s)) (mocodex_562 (b + s) (2 * s))
theorem mocodex_564 (b s : Nat) : xall (fun _ a => xBm a) 1 b s codex_564 := And.intro mobx_226 mobx_no
theorem mocodex_565 (b s : Nat) : xall (fun _ a => xBm a) 1 b s codex_565 := And.intro mobx_738 mobx_no
theorem mocodex_566 (b s : Nat) : xall (fun _ a => xBm a) 2 b s codex_566 := And.intro (mocodex_564 b (2 * s)) (mocodex_565 (b + s) (2 * s))
theorem mocodex_567 (b s : Nat) : xall (fun _ a => xBm a) 1 b s codex_567 := And.intro mobx_482 mobx_no
theorem mocodex_568 (b s : Nat) : xall (fun _ a => xBm a) 1 b s codex_568 := And.intro mobx_994 mobx_no
theorem mocodex_569 (b s : Nat) : xall (fun _ a => xBm a) 2 b s codex_569 := And.intro (mocodex_567 b (2 * s)) (mocodex_568 (b + s) (2 * s))
theorem mocodex_570 (b s : Nat) : xall (fun _ a => xBm a) 3 b s codex_570 := And.intro (mocodex_566 b (2 * s)) (mocodex_569 (b + s) (2 * s))
theorem mocodex_571 (b s : Nat) : xall (fun _ a => xBm a) 4 b s codex_571 := And.intro (mocodex_563 b (2 * s)) (mocodex_570 (b + s) (2 * s))
theorem mocodex_572 (b s : Nat) : xall (fun _ a => xBm a) 5 b s codex_572 := And.intro (mocodex_556 b (2 * s)) (mocodex_571 (b + s) (2 * s))
theorem mocodex_573 (b s : Nat) : xall (fun _ a => xBm a) 6 b s codex_573 := And.intro (mocodex_541 b (2 * s)) (mocodex_572 (b + s) (2 * s))
theorem mocodex_574 (b s : Nat) : xall (fun _ a => xBm a) 1 b s codex_574 := And.intro mobx_18 mobx_1042
theorem mocodex_575 (b s : Nat) : xall (fun _ a => xBm a) 1 b s codex_575 := And.intro mobx_530 mobx_no
theorem mocodex_576 (b s : Nat) : xall (fun _ a => xBm a) 2 b s codex_576 := And.intro (mocodex_574 b (2 * s)) (mocodex_575 (b + s) (2 * s))
theorem mocodex_577 (b s : Nat) : xall (fun _ a => xBm a) 1 b s codex_577 := And.intro mobx_274 mobx_no
theorem mocodex_578 (b s : Nat) : xall (fun _ a => xBm a) 1 b s codex_578 := And.intro mobx_786 mobx_no
theorem mocodex_579 (b s : Nat) : xall (fun _ a => xBm a) 2 b s codex_579 := And.intro (mocodex_577 b (2 * s)) (mocodex_578 (b + s) (2 * s))
theorem mocodex_580 (b s : Nat) : xall (fun _ a => xBm a) 3 b s codex_580 := And.intro (mocodex_576 b (2 * s)) (mocodex_579 (b + s) (2 * s))
theorem mocodex_581 (b s : Nat) : xall (fun _ a => xBm a) 1 b s codex_581 := And.intro mobx_146 mobx_1170
theorem mocodex_582 (b s : Nat) : xall (fun _ a => xBm a) 1 b s codex_582 := And.intro mobx_658 mobx_no
theorem mocodex_583 (b s : Nat) : xall (fun _ a => xBm a) 2 b s codex_583 := And.intro (mocodex_581 b (2 * s)) (mocodex_582 (b + s) (2 * s))
theorem mocodex_584 (b s : Nat) : xall (fun _ a => xBm a) 1 b s codex_584 := And.intro mobx_402 mobx_no
theorem mocodex_585 (b s : Nat) : xall (fun _ a => xBm a) 1 b s codex_585 := And.intro mobx_914 mobx_no
theorem mocodex_586 (b s : Nat) : xall (fun _ a => xBm a) 2 b s codex_586 := And.intro (mocodex_584 b (2 * s)) (mocodex_585 (b + s) (2 * s))
theorem mocodex_587 (b s : Nat) : xall (fun _ a => xBm a) 3 b s codex_587 := And.intro (mocodex_583 b (2 * s)) (mocodex_586 (b + s) (2 * s))
theorem mocodex_588 (b s : Nat) : xall (fun _ a => xBm a) 4 b s codex_588 := And.intro (mocodex_580 b (2 * s)) (mocodex_587 (b + s) (2 * s))
theorem mocodex_589 (b s : Nat) : xall (fun _ a => xBm a) 1 b s codex_589 := And.intro mobx_82 mobx_1106
theorem mocodex_590 (b s : Nat) : xall (fun _ a => xBm a) 1 b s codex_590 := And.intro mobx_594 mobx_no
theorem mocodex_591 (b s : Nat) : xall (fun _ a => xBm a) 2 b s codex_591 := And.intro (mocodex_589 b (2 * s)) (mocodex_590 (b + s) (2 * s))
theorem mocodex_592 (b s : Nat) : xall (fun _ a => xBm a) 1 b s codex_592 := And.intro mobx_338 mobx_no
theorem mocodex_593 (b s : Nat) : xall (fun _ a => xBm a) 1 b s codex_593 := And.intro mobx_850 mobx_no
theorem mocodex_594 (b s : Nat) : xall (fun _ a => xBm a) 2 b s codex_594 := And.intro (mocodex_592 b (2 * s)) (mocodex_593 (b + s) (2 * s))
theorem mocodex_595 (b s : Nat) : xall (fun _ a => xBm a) 3 b s codex_595 := And.intro (mocodex_591 b (2 * s)) (mocodex_594 (b + s) (2 * s))
theorem mocodex_596 (b s : Nat) : xall (fun _ a => xBm a) 1 b s codex_596 := And.intro mobx_210 mobx_no
theorem mocodex_597 (b s : Nat) : xall (fun _ a => xBm a) 1 b s codex_597 := And.intro mobx_722 mobx_no
theorem mocodex_598 (b s : Nat) : xall (fun _ a => xBm a) 2 b s codex_598 := And.intro (mocodex_596 b (2 * s)) (mocodex_597 (b + s) (2 * s))
theorem mocodex_599 (b s : Nat) : xall (fun _ a => xBm a) 1 b s codex_599 := And.intro mobx_466 mobx_no
theorem mocodex_600 (b s : Nat) : xall (fun _ a => xBm a) 1 b s codex_600 := And.intro mobx_978 mobx_no
theorem mocodex_601 (b s : Nat) : xall (fun _ a => xBm a) 2 b s codex_601 := And.intro (mocodex_599 b (2 * s)) (mocodex_600 (b + s) (2 * s))
theorem mocodex_602 (b s : Nat) : xall (fun _ a => xBm a) 3 b s codex_602 := And.intro (mocodex_598 b (2 * s)) (mocodex_601 (b + s) (2 * s))
theorem mocodex_603 (b s : Nat) : xall (fun _ a => xBm a) 4 b s codex_603 := And.intro (mocodex_595 b (2 * s)) (mocodex_602 (b + s) (2 * s))
theorem mocodex_604 (b s : Nat) : xall (fun _ a => xBm a) 5 b s codex_604 := And.intro (mocodex_588 b (2 * s)) (mocodex_603 (b + s) (2 * s))
theorem mocodex_605 (b s : Nat) : xall (fun _ a => xBm a) 1 b s codex_605 := And.intro mobx_50 mobx_1074
theorem mocodex_606 (b s : Nat) : xall (fun _ a => xBm a) 1 b s codex_606 := And.intro mobx_562 mobx_no
theorem mocodex_607 (b s : Nat) : xall (fun _ a => xBm a) 2 b s codex_607 := And.intro (mocodex_605 b (2 * s)) (mocodex_606 (b + s) (2 * s))
theorem mocodex_608 (b s : Nat) : xall (fun _ a => xBm a) 1 b s codex_608 := And.intro mobx_306 mobx_no
theorem mocodex_609 (b s : Nat) : xall (fun _ a => xBm a) 1 b s codex_609 := And.intro mobx_818 mobx_no
theorem mocodex_610 (b s : Nat) : xall (fun _ a => xBm a) 2 b s codex_610 := And.intro (mocodex_608 b (2 * s)) (mocodex_609 (b + s) (2 * s))
theorem mocodex_611 (b s : Nat) : xall (fun _ a => xBm a) 3 b s codex_611 := And.intro (mocodex_607 b (2 * s)) (mocodex_610 (b + s) (2 * s))
theorem mocodex_612 (b s : Nat) : xall (fun _ a => xBm a) 1 b s codex_612 := And.intro mobx_178 mobx_no
theorem mocodex_613 (b s : Nat) : xall (fun _ a => xBm a) 1 b s codex_613 := And.intro mobx_690 mobx_no
theorem mocodex_614 (b s : Nat) : xall (fun _ a => xBm a) 2 b s codex_614 := And.intro (mocodex_612 b (2 * s)) (mocodex_613 (b + s) (2 * s))
theorem mocodex_615 (b s : Nat) : xall (fun _ a => xBm a) 1 b s codex_615 := And.intro mobx_434 mobx_no
theorem mocodex_616 (b s : Nat) : xall (fun _ a => xBm a) 1 b s codex_616 := And.intro mobx_946 mobx_no
theorem mocodex_617 (b s : Nat) : xall (fun _ a => xBm a) 2 b s codex_617 := And.intro (mocodex_615 b (2 * s)) (mocodex_616 (b + s) (2 * s))
theorem mocodex_618 (b s : Nat) : xall (fun _ a => xBm a) 3 b s codex_618 := And.intro (mocodex_614 b (2 * s)) (mocodex_617 (b + s) (2 * s))
theorem mocodex_619 (b s : Nat) : xall (fun _ a => xBm a) 4 b s codex_619 := And.intro (mocodex_611 b (2 * s)) (mocodex_618 (b + s) (2 * s))
theorem mocodex_620 (b s : Nat) : xall (fun _ a => xBm a) 1 b s codex_620 := And.intro mobx_114 mobx_1138
theorem mocodex_621 (b s : Nat) : xall (fun _ a => xBm a) 1 b s codex_621 := And.intro mobx_626 mobx_no
theorem mocodex_622 (b s : Nat) : xall (fun _ a => xBm a) 2 b s codex_622 := And.intro (mocodex_620 b (2 * s)) (mocodex_621 (b + s) (2 * s))
theorem mocodex_623 (b s : Nat) : xall (fun _ a => xBm a) 1 b s codex_623 := And.intro mobx_370 mobx_no
theorem mocodex_624 (b s : Nat) : xall (fun _ a => xBm a) 1 b s codex_624 := And.intro mobx_882 mobx_no
theorem mocodex_625 (b s : Nat) : xall (fun _ a => xBm a) 2 b s codex_625 := And.intro (mocodex_623 b (2 * s)) (mocodex_624 (b + s) (2 * s))
theorem mocodex_626 (b s : Nat) : xall (fun _ a => xBm a) 3 b s codex_626 := And.intro (mocodex_622 b (2 * s)) (mocodex_625 (b + s) (2 * s))
theorem mocodex_627 (b s : Nat) : xall (fun _ a => xBm a) 1 b s codex_627 := And.intro mobx_242 mobx_no
theorem mocodex_628 (b s : Nat) : xall (fun _ a => xBm a) 1 b s codex_628 := And.intro mobx_754 mobx_no
theorem mocodex_629 (b s : Nat) : xall (fun _ a => xBm a) 2 b s codex_629 := And.intro (mocodex_627 b (2 * s)) (mocodex_628 (b + s) (2 * s))
theorem mocodex_630 (b s : Nat) : xall (fun _ a => xBm a) 1 b s codex_630 := And.intro mobx_498 mobx_no
theorem mocodex_631 (b s : Nat) : xall (fun _ a => xBm a) 1 b s codex_631 := And.intro mobx_1010 mobx_no
theorem mocodex_632 (b s : Nat) : xall (fun _ a => xBm a) 2 b s codex_632 := And.intro (mocodex_630 b (2 * s)) (mocodex_631 (b + s) (2 * s))
theorem mocodex_633 (b s : Nat) : xall (fun _ a => xBm a) 3 b s codex_633 := And.intro (mocodex_629 b (2 * s)) (mocodex_632 (b + s) (2 * s))
theorem mocodex_634 (b s : Nat) : xall (fun _ a => xBm a) 4 b s codex_634 := And.intro (mocodex_626 b (2 * s)) (mocodex_633 (b + s) (2 * s))
theorem mocodex_635 (b s : Nat) : xall (fun _ a => xBm a) 5 b s codex_635 := And.intro (mocodex_619 b (2 * s)) (mocodex_634 (b + s) (2 * s))
theorem mocodex_636 (b s : Nat) : xall (fun _ a => xBm a) 6 b s codex_636 := And.intro (mocodex_604 b (2 * s)) (mocodex_635 (b + s) (2 * s))
theorem mocodex_637 (b s : Nat) : xall (fun _ a => xBm a) 7 b s codex_637 := And.intro (mocodex_573 b (2 * s)) (mocodex_636 (b + s) (2 * s))
theorem mocodex_638 (b s : Nat) : xall (fun _ a => xBm a) 1 b s codex_638 := And.intro mobx_10 mobx_1034
theorem mocodex_639 (b s : Nat) : xall (fun _ a => xBm a) 1 b s codex_639 := And.intro mobx_522 mobx_no
theorem mocodex_640 (b s : Nat) : xall (fun _ a => xBm a) 2 b s codex_640 := And.intro (mocodex_638 b (2 * s)) (mocodex_639 (b + s) (2 * s))
theorem mocodex_641 (b s : Nat) : xall (fun _ a => xBm a) 1 b s codex_641 := And.intro mobx_266 mobx_no
theorem mocodex_642 (b s : Nat) : xall (fun _ a => xBm a) 1 b s codex_642 := And.intro mobx_778 mobx_no
theorem mocodex_643 (b s : Nat) : xall (fun _ a => xBm a) 2 b s codex_643 := And.intro (mocodex_641 b (2 * s)) (mocodex_642 (b + s) (2 * s))
theorem mocodex_644 (b s : Nat) : xall (fun _ a => xBm a) 3 b s codex_644 := And.intro (mocodex_640 b (2 * s)) (mocodex_643 (b + s) (2 * s))
theorem mocodex_645 (b s : Nat) : xall (fun _ a => xBm a) 1 b s codex_645 := And.intro mobx_138 mobx_1162
theorem mocodex_646 (b s : Nat) : xall (fun _ a => xBm a) 1 b s codex_646 := And.intro mobx_650 mobx_no
theorem mocodex_647 (b s : Nat) : xall (fun _ a => xBm a) 2 b s codex_647 := And.intro (mocodex_645 b (2 * s)) (mocodex_646 (b + s) (2 * s))
theorem mocodex_648 (b s : Nat) : xall (fun _ a => xBm a) 1 b s codex_648 := And.intro mobx_394 mobx_no
theorem mocodex_649 (b s : Nat) : xall (fun _ a => xBm a) 1 b s codex_649 := And.intro mobx_906 mobx_no
theorem mocodex_650 (b s : Nat) : xall (fun _ a => xBm a) 2 b s codex_650 := And.intro (mocodex_648 b (2 * s)) (mocodex_649 (b + s) (2 * s))
theorem mocodex_651 (b s : Nat) : xall (fun _ a => xBm a) 3 b s codex_651 := And.intro (mocodex_647 b (2 * s)) (mocodex_650 (b + s) (2 * s))
theorem mocodex_652 (b s : Nat) : xall (fun _ a => xBm a) 4 b s codex_652 := And.intro (mocodex_644 b (2 * s)) (mocodex_651 (b + s) (2 * s))
theorem mocodex_653 (b s : Nat) : xall (fun _ a => xBm a) 1 b s codex_653 := And.intro mobx_74 mobx_1098
theorem mocodex_654 (b s : Nat) : xall (fun _ a => xBm a) 1 b s codex_654 := And.intro mobx_586 mobx_no
theorem mocodex_655 (b s : Nat) : xall (fun _ a => xBm a) 2 b s codex_655 := And.intro (mocodex_653 b (2 * s)) (mocodex_654 (b + s) (2 * s))
theorem mocodex_656 (b s : Nat) : xall (fun _ a => xBm a) 1 b s codex_656 := And.intro mobx_330 mobx_no
theorem mocodex_657 (b s : Nat) : xall (fun _ a => xBm a) 1 b s codex_657 := And.intro mobx_842 mobx_no
theorem mocodex_658 (b s : Nat) : xall (fun _ a => xBm a) 2 b s codex_658 := And.intro (mocodex_656 b (2 * s)) (mocodex_657 (b + s) (2 * s))
theorem mocodex_659 (b s : Nat) : xall (fun _ a => xBm a) 3 b s codex_659 := And.intro (mocodex_655 b (2 * s)) (mocodex_658 (b + s) (2 * s))
theorem mocodex_660 (b s : Nat) : xall (fun _ a => xBm a) 1 b s codex_660 := And.intro mobx_202 mobx_no
theorem mocodex_661 (b s : Nat) : xall (fun _ a => xBm a) 1 b s codex_661 := And.intro mobx_714 mobx_no
theorem mocodex_662 (b s : Nat) : xall (fun _ a => xBm a) 2 b s codex_662 := And.intro (mocodex_660 b (2 * s)) (mocodex_661 (b + s) (2 * s))
theorem mocodex_663 (b s : Nat) : xall (fun _ a => xBm a) 1 b s codex_663 := And.intro mobx_458 mobx_no
theorem mocodex_664 (b s : Nat) : xall (fun _ a => xBm a) 1 b s codex_664 := And.intro mobx_970 mobx_no
theorem mocodex_665 (b s : Nat) : xall (fun _ a => xBm a) 2 b s codex_665 := And.intro (mocodex_663 b (2 * s)) (mocodex_664 (b + s) (2 * s))
theorem mocodex_666 (b s : Nat) : xall (fun _ a => xBm a) 3 b s codex_666 := And.intro (mocodex_662 b (2 * s)) (mocodex_665 (b + s) (2 * s))
theorem mocodex_667 (b s : Nat) : xall (fun _ a => xBm a) 4 b s codex_667 := And.intro (mocodex_659 b (2 * s)) (mocodex_666 (b + s) (2 * s))
theorem mocodex_668 (b s : Nat) : xall (fun _ a => xBm a) 5 b s codex_668 := And.intro (mocodex_652 b (2 * s)) (mocodex_667 (b + s) (2 * s))
theorem mocodex_669 (b s : Nat) : xall (fun _ a => xBm a) 1 b s codex_669 := And.intro mobx_42 mobx_1066
theorem mocodex_670 (b s : Nat) : xall (fun _ a => xBm a) 1 b s codex_670 := And.intro mobx_554 mobx_no
theorem mocodex_671 (b s : Nat) : xall (fun _ a => xBm a) 2 b s codex_671 := And.intro (mocodex_669 b (2 * s)) (mocodex_670 (b + s) (2 * s))
theorem mocodex_672 (b s : Nat) : xall (fun _ a => xBm a) 1 b s codex_672 := And.intro mobx_298 mobx_no
theorem mocodex_673 (b s : Nat) : xall (fun _ a => xBm a) 1 b s codex_673 := And.intro mobx_810 mobx_no
theorem mocodex_674 (b s : Nat) : xall (fun _ a => xBm a) 2 b s codex_674 := And.intro (mocodex_672 b (2 * s)) (mocodex_673 (b + s) (2 * s))
theorem mocodex_675 (b s : Nat) : xall (fun _ a => xBm a) 3 b s codex_675 := And.intro (mocodex_671 b (2 * s)) (mocodex_674 (b + s) (2 * s))
theorem mocodex_676 (b s : Nat) : xall (fun _ a => xBm a) 1 b s codex_676 := And.intro mobx_170 mobx_1194
theorem mocodex_677 (b s : Nat) : xall (fun _ a => xBm a) 1 b s codex_677 := And.intro mobx_682 mobx_no
theorem mocodex_678 (b s : Nat) : xall (fun _ a => xBm a) 2 b s codex_678 := And.intro (mocodex_676 b (2 * s)) (mocodex_677 (b + s) (2 * s))
theorem mocodex_679 (b s : Nat) : xall (fun _ a => xBm a) 1 b s codex_679 := And.intro mobx_426 mobx_no
theorem mocodex_680 (b s : Nat) : xall (fun _ a => xBm a) 1 b s codex_680 := And.intro mobx_938 mobx_no
theorem mocodex_681 (b s : Nat) : xall (fun _ a => xBm a) 2 b s codex_681 := And.intro (mocodex_679 b (2 * s)) (mocodex_680 (b + s) (2 * s))
theorem mocodex_682 (b s : Nat) : xall (fun _ a => xBm a) 3 b s codex_682 := And.intro (mocodex_678 b (2 * s)) (mocodex_681 (b + s) (2 * s))
theorem mocodex_683 (b s : Nat) : xall (fun _ a => xBm a) 4 b s codex_683 := And.intro (mocodex_675 b (2 * s)) (mocodex_682 (b + s) (2 * s))
theorem mocodex_684 (b s : Nat) : xall (fun _ a => xBm a) 1 b s codex_684 := And.intro mobx_106 mobx_1130
theorem mocodex_685 (b s : Nat) : xall (fun _ a => xBm a) 1 b s codex_685 := And.intro mobx_618 mobx_no
theorem mocodex_686 (b s : Nat) : xall (fun _ a => xBm a) 2 b s codex_686 := And.intro (mocodex_684 b (2 * s)) (mocodex_685 (b + s) (2 * s))
theorem mocodex_687 (b s : Nat) : xall (fun _ a => xBm a) 1 b s codex_687 := And.intro mobx_362 mobx_no
theorem mocodex_688 (b s : Nat) : xall (fun _ a => xBm a) 1 b s codex_688 := And.intro mobx_874 mobx_no
theorem mocodex_689 (b s : Nat) : xall (fun _ a => xBm a) 2 b s codex_689 := And.intro (mocodex_687 b (2 * s)) (mocodex_688 (b + s) (2 * s))
theorem mocodex_690 (b s : Nat) : xall (fun _ a => xBm a) 3 b s codex_690 := And.intro (mocodex_686 b (2 * s)) (mocodex_689 (b + s) (2 * s))
theorem mocodex_691 (b s : Nat) : xall (fun _ a => xBm a) 1 b s codex_691 := And.intro mobx_234 mobx_no
theorem mocodex_692 (b s : Nat) : xall (fun _ a => xBm a) 1 b s codex_692 := And.intro mobx_746 mobx_no
theorem mocodex_693 (b s : Nat) : xall (fun _ a => xBm a) 2 b s codex_693 := And.intro (mocodex_691 b (2 * s)) (mocodex_692 (b + s) (2 * s))
theorem mocodex_694 (b s : Nat) : xall (fun _ a => xBm a) 1 b s codex_694 := And.intro mobx_490 mobx_no
theorem mocodex_695 (b s : Nat) : xall (fun _ a => xBm a) 1 b s codex_695 := And.intro mobx_1002 mobx_no
theorem mocodex_696 (b s : Nat) : xall (fun _ a => xBm a) 2 b s codex_696 := And.intro (mocodex_694 b (2 * s)) (mocodex_695 (b + s) (2 * s))
theorem mocodex_697 (b s : Nat) : xall (fun _ a => xBm a) 3 b s codex_697 := And.intro (mocodex_693 b (2 * s)) (mocodex_696 (b + s) (2 * s))
theorem mocodex_698 (b s : Nat) : xall (fun _ a => xBm a) 4 b s codex_698 := And.intro (mocodex_690 b (2 * s)) (mocodex_697 (b + s) (2 * s))
theorem mocodex_699 (b s : Nat) : xall (fun _ a => xBm a) 5 b s codex_699 := And.intro (mocodex_683 b (2 * s)) (mocodex_698 (b + s) (2 * s))
theorem mocodex_700 (b s : Nat) : xall (fun _ a => xBm a) 6 b s codex_700 := And.intro (mocodex_668 b (2 * s)) (mocodex_699 (b + s) (2 * s))
theorem mocodex_701 (b s : Nat) : xall (fun _ a => xBm a) 1 b s codex_701 := And.intro mobx_26 mobx_1050
theorem mocodex_702 (b s : Nat) : xall (fun _ a => xBm a) 1 b s codex_702 := And.intro mobx_538 mobx_no
theorem mocodex_703 (b s : Nat) : xall (fun _ a => xBm a) 2 b s codex_703 := And.intro (mocodex_701 b (2 * s)) (mocodex_702 (b + s) (2 * s))
theorem mocodex_704 (b s : Nat) : xall (fun _ a => xBm a) 1 b s codex_704 := And.intro mobx_282 mobx_no
theorem mocodex_705 (b s : Nat) : xall (fun _ a => xBm a) 1 b s codex_705 := And.intro mobx_794 mobx_no
theorem mocodex_706 (b s : Nat) : xall (fun _ a => xBm a) 2 b s codex_706 := And.intro (mocodex_704 b (2 * s)) (mocodex_705 (b + s) (2 * s))
theorem mocodex_707 (b s : Nat) : xall (fun _ a => xBm a) 3 b s codex_707 := And.intro (mocodex_703 b (2 * s)) (mocodex_706 (b + s) (2 * s))
theorem mocodex_708 (b s : Nat) : xall (fun _ a => xBm a) 1 b s codex_708 := And.intro mobx_154 mobx_1178
theorem mocodex_709 (b s : Nat) : xall (fun _ a => xBm a) 1 b s codex_709 := And.intro mobx_666 mobx_no
theorem mocodex_710 (b s : Nat) : xall (fun _ a => xBm a) 2 b s codex_710 := And.intro (mocodex_708 b (2 * s)) (mocodex_709 (b + s) (2 * s))
theorem mocodex_711 (b s : Nat) : xall (fun _ a => xBm a) 1 b s codex_711 := And.intro mobx_410 mobx_no
theorem mocodex_712 (b s : Nat) : xall (fun _ a => xBm a) 1 b s codex_712 := And.intro mobx_922 mobx_no
theorem mocodex_713 (b s : Nat) : xall (fun _ a => xBm a) 2 b s codex_713 := And.intro (mocodex_711 b (2 * s)) (mocodex_712 (b + s) (2 * s))
theorem mocodex_714 (b s : Nat) : xall (fun _ a => xBm a) 3 b s codex_714 := And.intro (mocodex_710 b (2 * s)) (mocodex_713 (b + s) (2 * s))
theorem mocodex_715 (b s : Nat) : xall (fun _ a => xBm a) 4 b s codex_715 := And.intro (mocodex_707 b (2 * s)) (mocodex_714 (b + s) (2 * s))
theorem mocodex_716 (b s : Nat) : xall (fun _ a => xBm a) 1 b s codex_716 := And.intro mobx_90 mobx_1114
theorem mocodex_717 (b s : Nat) : xall (fun _ a => xBm a) 1 b s codex_717 := And.intro mobx_602 mobx_no
theorem mocodex_718 (b s : Nat) : xall (fun _ a => xBm a) 2 b s codex_718 := And.intro (mocodex_716 b (2 * s)) (mocodex_717 (b + s) (2 * s))
theorem mocodex_719 (b s : Nat) : xall (fun _ a => xBm a) 1 b s codex_719 := And.intro mobx_346 mobx_no
theorem mocodex_720 (b s : Nat) : xall (fun _ a => xBm a) 1 b s codex_720 := And.intro mobx_858 mobx_no
theorem mocodex_721 (b s : Nat) : xall (fun _ a => xBm a) 2 b s codex_721 := And.intro (mocodex_719 b (2 * s)) (mocodex_720 (b + s) (2 * s))
theorem mocodex_722 (b s : Nat) : xall (fun _ a => xBm a) 3 b s codex_722 := And.intro (mocodex_718 b (2 * s)) (mocodex_721 (b + s) (2 * s))
theorem mocodex_723 (b s : Nat) : xall (fun _ a => xBm a) 1 b s codex_723 := And.intro mobx_218 mobx_no
theorem mocodex_724 (b s : Nat) : xall (fun _ a => xBm a) 1 b s codex_724 := And.intro mobx_730 mobx_no
theorem mocodex_725 (b s : Nat) : xall (fun _ a => xBm a) 2 b s codex_725 := And.intro (mocodex_723 b (2 * s)) (mocodex_724 (b + s) (2 * s))
theorem mocodex_726 (b s : Nat) : xall (fun _ a => xBm a) 1 b s codex_726 := And.intro mobx_474 mobx_no
theorem mocodex_727 (b s : Nat) : xall (fun _ a => xBm a) 1 b s codex_727 := And.intro mobx_986 mobx_no
theorem mocodex_728 (b s : Nat) : xall (fun _ a => xBm a) 2 b s codex_728 := And.intro (mocodex_726 b (2 * s)) (mocodex_727 (b + s) (2 * s))
theorem mocodex_729 (b s : Nat) : xall (fun _ a => xBm a) 3 b s codex_729 := And.intro (mocodex_725 b (2 * s)) (mocodex_728 (b + s) (2 * s))
theorem mocodex_730 (b s : Nat) : xall (fun _ a => xBm a) 4 b s codex_730 := And.intro (mocodex_722 b (2 * s)) (mocodex_729 (b + s) (2 * s))
theorem mocodex_731 (b s : Nat) : xall (fun _ a => xBm a) 5 b s codex_731 := And.intro (mocodex_715 b (2 * s)) (mocodex_730 (b + s) (2 * s))
theorem mocodex_732 (b s : Nat) : xall (fun _ a => xBm a) 1 b s codex_732 := And.intro mobx_58 mobx_1082
theorem mocodex_733 (b s : Nat) : xall (fun _ a => xBm a) 1 b s codex_733 := And.intro mobx_570 mobx_no
theorem mocodex_734 (b s : Nat) : xall (fun _ a => xBm a) 2 b s codex_734 := And.intro (mocodex_732 b (2 * s)) (mocodex_733 (b + s) (2 * s))
theorem mocodex_735 (b s : Nat) : xall (fun _ a => xBm a) 1 b s codex_735 := And.intro mobx_314 mobx_no
theorem mocodex_736 (b s : Nat) : xall (fun _ a => xBm a) 1 b s codex_736 := And.intro mobx_826 mobx_no
theorem mocodex_737 (b s : Nat) : xall (fun _ a => xBm a) 2 b s codex_737 := And.intro (mocodex_735 b (2 * s)) (mocodex_736 (b + s) (2 * s))
theorem mocodex_738 (b s : Nat) : xall (fun _ a => xBm a) 3 b s codex_738 := And.intro (mocodex_734 b (2 * s)) (mocodex_737 (b + s) (2 * s))
theorem mocodex_739 (b s : Nat) : xall (fun _ a => xBm a) 1 b s codex_739 := And.intro mobx_186 mobx_no
theorem mocodex_740 (b s : Nat) : xall (fun _ a => xBm a) 1 b s codex_740 := And.intro mobx_698 mobx_no
theorem mocodex_741 (b s : Nat) : xall (fun _ a => xBm a) 2 b s codex_741 := And.intro (mocodex_739 b (2 * s)) (mocodex_740 (b + s) (2 * s))
theorem mocodex_742 (b s : Nat) : xall (fun _ a => xBm a) 1 b s codex_742 := And.intro mobx_442 mobx_no
theorem mocodex_743 (b s : Nat) : xall (fun _ a => xBm a) 1 b s codex_743 := And.intro mobx_954 mobx_no
theorem mocodex_744 (b s : Nat) : xall (fun _ a => xBm a) 2 b s codex_744 := And.intro (mocodex_742 b (2 * s)) (mocodex_743 (b + s) (2 * s))
theorem mocodex_745 (b s : Nat) : xall (fun _ a => xBm a) 3 b s codex_745 := And.intro (mocodex_741 b (2 * s)) (mocodex_744 (b + s) (2 * s))
theorem mocodex_746 (b s : Nat) : xall (fun _ a => xBm a) 4 b s codex_746 := And.intro (mocodex_738 b (2 * s)) (mocodex_745 (b + s) (2 * s))
theorem mocodex_747 (b s : Nat) : xall (fun _ a => xBm a) 1 b s codex_747 := And.intro mobx_122 mobx_1146
theorem mocodex_748 (b s : Nat) : xall (fun _ a => xBm a) 1 b s codex_748 := And.intro mobx_634 mobx_no
theorem mocodex_749 (b s : Nat) : xall (fun _ a => xBm a) 2 b s codex_749 := And.intro (mocodex_747 b (2 * s)) (mocodex_748 (b + s) (2 * s))
theorem mocodex_750 (b s : Nat) : xall (fun _ a => xBm a) 1 b s codex_750 := And.intro mobx_378 mobx_no
theorem mocodex_751 (b s : Nat) : xall (fun _ a => xBm a) 1 b s codex_751 := And.intro mobx_890 mobx_no
theorem mocodex_752 (b s : Nat) : xall (fun _ a => xBm a) 2 b s codex_752 := And.intro (mocodex_750 b (2 * s)) (mocodex_751 (b + s) (2 * s))
theorem mocodex_753 (b s : Nat) : xall (fun _ a => xBm a) 3 b s codex_753 := And.intro (mocodex_749 b (2 * s)) (mocodex_752 (b + s) (2 * s))
theorem mocodex_754 (b s : Nat) : xall (fun _ a => xBm a) 1 b s codex_754 := And.intro mobx_250 mobx_no
theorem mocodex_755 (b s : Nat) : xall (fun _ a => xBm a) 1 b s codex_755 := And.intro mobx_762 mobx_no
theorem mocodex_756 (b s : Nat) : xall (fun _ a => xBm a) 2 b s codex_756 := And.intro (mocodex_754 b (2 * s)) (mocodex_755 (b + s) (2 * s))
theorem mocodex_757 (b s : Nat) : xall (fun _ a => xBm a) 1 b s codex_757 := And.intro mobx_506 mobx_no
theorem mocodex_758 (b s : Nat) : xall (fun _ a => xBm a) 1 b s codex_758 := And.intro mobx_1018 mobx_no
theorem mocodex_759 (b s : Nat) : xall (fun _ a => xBm a) 2 b s codex_759 := And.intro (mocodex_757 b (2 * s)) (mocodex_758 (b + s) (2 * s))
theorem mocodex_760 (b s : Nat) : xall (fun _ a => xBm a) 3 b s codex_760 := And.intro (mocodex_756 b (2 * s)) (mocodex_759 (b + s) (2 * s))
theorem mocodex_761 (b s : Nat) : xall (fun _ a => xBm a) 4 b s codex_761 := And.intro (mocodex_753 b (2 * s)) (mocodex_760 (b + s) (2 * s))
theorem mocodex_762 (b s : Nat) : xall (fun _ a => xBm a) 5 b s codex_762 := And.intro (mocodex_746 b (2 * s)) (mocodex_761 (b + s) (2 * s))
theorem mocodex_763 (b s : Nat) : xall (fun _ a => xBm a) 6 b s codex_763 := And.intro (mocodex_731 b (2 * s)) (mocodex_762 (b + s) (2 * s))
theorem mocodex_764 (b s : Nat) : xall (fun _ a => xBm a) 7 b s codex_764 := And.intro (mocodex_700 b (2 * s)) (mocodex_763 (b + s) (2 * s))
theorem mocodex_765 (b s : Nat) : xall (fun _ a => xBm a) 8 b s codex_765 := And.intro (mocodex_637 b (2 * s)) (mocodex_764 (b + s) (2 * s))
theorem mocodex_766 (b s : Nat) : xall (fun _ a => xBm a) 1 b s codex_766 := And.intro mobx_6 mobx_1030
theorem mocodex_767 (b s : Nat) : xall (fun _ a => xBm a) 1 b s codex_767 := And.intro mobx_518 mobx_no
theorem mocodex_768 (b s : Nat) : xall (fun _ a => xBm a) 2 b s codex_768 := And.intro (mocodex_766 b (2 * s)) (mocodex_767 (b + s) (2 * s))
theorem mocodex_769 (b s : Nat) : xall (fun _ a => xBm a) 1 b s codex_769 := And.intro mobx_262 mobx_no
theorem mocodex_770 (b s : Nat) : xall (fun _ a => xBm a) 1 b s codex_770 := And.intro mobx_774 mobx_no
theorem mocodex_771 (b s : Nat) : xall (fun _ a => xBm a) 2 b s codex_771 := And.intro (mocodex_769 b (2 * s)) (mocodex_770 (b + s) (2 * s))
theorem mocodex_772 (b s : Nat) : xall (fun _ a => xBm a) 3 b s codex_772 := And.intro (mocodex_768 b (2 * s)) (mocodex_771 (b + s) (2 * s))
theorem mocodex_773 (b s : Nat) : xall (fun _ a => xBm a) 1 b s codex_773 := And.intro mobx_134 mobx_1158
theorem mocodex_774 (b s : Nat) : xall (fun _ a => xBm a) 1 b s codex_774 := And.intro mobx_646 mobx_no
theorem mocodex_775 (b s : Nat) : xall (fun _ a => xBm a) 2 b s codex_775 := And.intro (mocodex_773 b (2 * s)) (mocodex_774 (b + s) (2 * s))
theorem mocodex_776 (b s : Nat) : xall (fun _ a => xBm a) 1 b s codex_776 := And.intro mobx_390 mobx_no
theorem mocodex_777 (b s : Nat) : xall (fun _ a => xBm a) 1 b s codex_777 := And.intro mobx_902 mobx_no
theorem mocodex_778 (b s : Nat) : xall (fun _ a => xBm a) 2 b s codex_778 := And.intro (mocodex_776 b (2 * s)) (mocodex_777 (b + s) (2 * s))
theorem mocodex_779 (b s : Nat) : xall (fun _ a => xBm a) 3 b s codex_779 := And.intro (mocodex_775 b (2 * s)) (mocodex_778 (b + s) (2 * s))
theorem mocodex_780 (b s : Nat) : xall (fun _ a => xBm a) 4 b s codex_780 := And.intro (mocodex_772 b (2 * s)) (mocodex_779 (b + s) (2 * s))
theorem mocodex_781 (b s : Nat) : xall (fun _ a => xBm a) 1 b s codex_781 := And.intro mobx_70 mobx_1094
theorem mocodex_782 (b s : Nat) : xall (fun _ a => xBm a) 1 b s codex_782 := And.intro mobx_582 mobx_no
theorem mocodex_783 (b s : Nat) : xall (fun _ a => xBm a) 2 b s codex_783 := And.intro (mocodex_781 b (2 * s)) (mocodex_782 (b + s) (2 * s))
theorem mocodex_784 (b s : Nat) : xall (fun _ a => xBm a) 1 b s codex_784 := And.intro mobx_326 mobx_no
theorem mocodex_785 (b s : Nat) : xall (fun _ a => xBm a) 1 b s codex_785 := And.intro mobx_838 mobx_no
theorem mocodex_786 (b s : Nat) : xall (fun _ a => xBm a) 2 b s codex_786 := And.intro (mocodex_784 b (2 * s)) (mocodex_785 (b + s) (2 * s))
theorem mocodex_787 (b s : Nat) : xall (fun _ a => xBm a) 3 b s codex_787 := And.intro (mocodex_783 b (2 * s)) (mocodex_786 (b + s) (2 * s))
theorem mocodex_788 (b s : Nat) : xall (fun _ a => xBm a) 1 b s codex_788 := And.intro mobx_198 mobx_no
theorem mocodex_789 (b s : Nat) : xall (fun _ a => xBm a) 1 b s codex_789 := And.intro mobx_710 mobx_no
theorem mocodex_790 (b s : Nat) : xall (fun _ a => xBm a) 2 b s codex_790 := And.intro (mocodex_788 b (2 * s)) (mocodex_789 (b + s) (2 * s))
theorem mocodex_791 (b s : Nat) : xall (fun _ a => xBm a) 1 b s codex_791 := And.intro mobx_454 mobx_no
theorem mocodex_792 (b s : Nat) : xall (fun _ a => xBm a) 1 b s codex_792 := And.intro mobx_966 mobx_no
theorem mocodex_793 (b s : Nat) : xall (fun _ a => xBm a) 2 b s codex_793 := And.intro (mocodex_791 b (2 * s)) (mocodex_792 (b + s) (2 * s))
theorem mocodex_794 (b s : Nat) : xall (fun _ a => xBm a) 3 b s codex_794 := And.intro (mocodex_790 b (2 * s)) (mocodex_793 (b + s) (2 * s))
theorem mocodex_795 (b s : Nat) : xall (fun _ a => xBm a) 4 b s codex_795 := And.intro (mocodex_787 b (2 * s)) (mocodex_794 (b + s) (2 * s))
theorem mocodex_796 (b s : Nat) : xall (fun _ a => xBm a) 5 b s codex_796 := And.intro (mocodex_780 b (2 * s)) (mocodex_795 (b + s) (2 * s))
theorem mocodex_797 (b s : Nat) : xall (fun _ a => xBm a) 1 b s codex_797 := And.intro mobx_38 mobx_1062
theorem mocodex_798 (b s : Nat) : xall (fun _ a => xBm a) 1 b s codex_798 := And.intro mobx_550 mobx_no
theorem mocodex_799 (b s : Nat) : xall (fun _ a => xBm a) 2 b s codex_799 := And.intro (mocodex_797 b (2 * s)) (mocodex_798 (b + s) (2 * s))
theorem mocodex_800 (b s : Nat) : xall (fun _ a => xBm a) 1 b s codex_800 := And.intro mobx_294 mobx_no
theorem mocodex_801 (b s : Nat) : xall (fun _ a => xBm a) 1 b s codex_801 := And.intro mobx_806 mobx_no
theorem mocodex_802 (b s : Nat) : xall (fun _ a => xBm a) 2 b s codex_802 := And.intro (mocodex_800 b (2 * s)) (mocodex_801 (b + s) (2 * s))
theorem mocodex_803 (b s : Nat) : xall (fun _ a => xBm a) 3 b s codex_803 := And.intro (mocodex_799 b (2 * s)) (mocodex_802 (b + s) (2 * s))
theorem mocodex_804 (b s : Nat) : xall (fun _ a => xBm a) 1 b s codex_804 := And.intro mobx_166 mobx_1190
theorem mocodex_805 (b s : Nat) : xall (fun _ a => xBm a) 1 b s codex_805 := And.intro mobx_678 mobx_no
theorem mocodex_806 (b s : Nat) : xall (fun _ a => xBm a) 2 b s codex_806 := And.intro (mocodex_804 b (2 * s)) (mocodex_805 (b + s) (2 * s))
theorem mocodex_807 (b s : Nat) : xall (fun _ a => xBm a) 1 b s codex_807 := And.intro mobx_422 mobx_no
theorem mocodex_808 (b s : Nat) : xall (fun _ a => xBm a) 1 b s codex_808 := And.intro mobx_934 mobx_no
theorem mocodex_809 (b s : Nat) : xall (fun _ a => xBm a) 2 b s codex_809 := And.intro (mocodex_807 b (2 * s)) (mocodex_808 (b + s) (2 * s))
theorem mocodex_810 (b s : Nat) : xall (fun _ a => xBm a) 3 b s codex_810 := And.intro (mocodex_806 b (2 * s)) (mocodex_809 (b + s) (2 * s))
theorem mocodex_811 (b s : Nat) : xall (fun _ a => xBm a) 4 b s codex_811 := And.intro (mocodex_803 b (2 * s)) (mocodex_810 (b + s) (2 * s))
theorem mocodex_812 (b s : Nat) : xall (fun _ a => xBm a) 1 b s codex_812 := And.intro mobx_102 mobx_1126
theorem mocodex_813 (b s : Nat) : xall (fun _ a => xBm a) 1 b s codex_813 := And.intro mobx_614 mobx_no
theorem mocodex_814 (b s : Nat) : xall (fun _ a => xBm a) 2 b s codex_814 := And.intro (mocodex_812 b (2 * s)) (mocodex_813 (b + s) (2 * s))
theorem mocodex_815 (b s : Nat) : xall (fun _ a => xBm a) 1 b s codex_815 := And.intro mobx_358 mobx_no
theorem mocodex_816 (b s : Nat) : xall (fun _ a => xBm a) 1 b s codex_816 := And.intro mobx_870 mobx_no
theorem mocodex_817 (b s : Nat) : xall (fun _ a => xBm a) 2 b s codex_817 := And.intro (mocodex_815 b (2 * s)) (mocodex_816 (b + s) (2 * s))
theorem mocodex_818 (b s : Nat) : xall (fun _ a => xBm a) 3 b s codex_818 := And.intro (mocodex_814 b (2 * s)) (mocodex_817 (b + s) (2 * s))
theorem mocodex_819 (b s : Nat) : xall (fun _ a => xBm a) 1 b s codex_819 := And.intro mobx_230 mobx_no
theorem mocodex_820 (b s : Nat) : xall (fun _ a => xBm a) 1 b s codex_820 := And.intro mobx_742 mobx_no
theorem mocodex_821 (b s : Nat) : xall (fun _ a => xBm a) 2 b s codex_821 := And.intro (mocodex_819 b (2 * s)) (mocodex_820 (b + s) (2 * s))
theorem mocodex_822 (b s : Nat) : xall (fun _ a => xBm a) 1 b s codex_822 := And.intro mobx_486 mobx_no
theorem mocodex_823 (b s : Nat) : xall (fun _ a => xBm a) 1 b s codex_823 := And.intro mobx_998 mobx_no
theorem mocodex_824 (b s : Nat) : xall (fun _ a => xBm a) 2 b s codex_824 := And.intro (mocodex_822 b (2 * s)) (mocodex_823 (b + s) (2 * s))
theorem mocodex_825 (b s : Nat) : xall (fun _ a => xBm a) 3 b s codex_825 := And.intro (mocodex_821 b (2 * s)) (mocodex_824 (b + s) (2 * s))
theorem mocodex_826 (b s : Nat) : xall (fun _ a => xBm a) 4 b s codex_826 := And.intro (mocodex_818 b (2 * s)) (mocodex_825 (b + s) (2 * s))
theorem mocodex_827 (b s : Nat) : xall (fun _ a => xBm a) 5 b s codex_827 := And.intro (mocodex_811 b (2 * s)) (mocodex_826 (b + s) (2 * s))
theorem mocodex_828 (b s : Nat) : xall (fun _ a => xBm a) 6 b s codex_828 := And.intro (mocodex_796 b (2 * s)) (mocodex_827 (b + s) (2 * s))
theorem mocodex_829 (b s : Nat) : xall (fun _ a => xBm a) 1 b s codex_829 := And.intro mobx_22 mobx_1046
theorem mocodex_830 (b s : Nat) : xall (fun _ a => xBm a) 1 b s codex_830 := And.intro mobx_534 mobx_no
theorem mocodex_831 (b s : Nat) : xall (fun _ a => xBm a) 2 b s codex_831 := And.intro (mocodex_829 b (2 * s)) (mocodex_830 (b + s) (2 * s))
theorem mocodex_832 (b s : Nat) : xall (fun _ a => xBm a) 1 b s codex_832 := And.intro mobx_278 mobx_no
theorem mocodex_833 (b s : Nat) : xall (fun _ a => xBm a) 1 b s codex_833 := And.intro mobx_790 mobx_no
theorem mocodex_834 (b s : Nat) : xall (fun _ a => xBm a) 2 b s codex_834 := And.intro (mocodex_832 b (2 * s)) (mocodex_833 (b + s) (2 * s))
theorem mocodex_835 (b s : Nat) : xall (fun _ a => xBm a) 3 b s codex_835 := And.intro (mocodex_831 b (2 * s)) (mocodex_834 (b + s) (2 * s))
theorem mocodex_836 (b s : Nat) : xall (fun _ a => xBm a) 1 b s codex_836 := And.intro mobx_150 mobx_1174
theorem mocodex_837 (b s : Nat) : xall (fun _ a => xBm a) 1 b s codex_837 := And.intro mobx_662 mobx_no
theorem mocodex_838 (b s : Nat) : xall (fun _ a => xBm a) 2 b s codex_838 := And.intro (mocodex_836 b (2 * s)) (mocodex_837 (b + s) (2 * s))
theorem mocodex_839 (b s : Nat) : xall (fun _ a => xBm a) 1 b s codex_839 := And.intro mobx_406 mobx_no
theorem mocodex_840 (b s : Nat) : xall (fun _ a => xBm a) 1 b s codex_840 := And.intro mobx_918 mobx_no
theorem mocodex_841 (b s : Nat) : xall (fun _ a => xBm a) 2 b s codex_841 := And.intro (mocodex_839 b (2 * s)) (mocodex_840 (b + s) (2 * s))
theorem mocodex_842 (b s : Nat) : xall (fun _ a => xBm a) 3 b s codex_842 := And.intro (mocodex_838 b (2 * s)) (mocodex_841 (b + s) (2 * s))
theorem mocodex_843 (b s : Nat) : xall (fun _ a => xBm a) 4 b s codex_843 := And.intro (mocodex_835 b (2 * s)) (mocodex_842 (b + s) (2 * s))
theorem mocodex_844 (b s : Nat) : xall (fun _ a => xBm a) 1 b s codex_844 := And.intro mobx_86 mobx_1110
theorem mocodex_845 (b s : Nat) : xall (fun _ a => xBm a) 1 b s codex_845 := And.intro mobx_598 mobx_no
theorem mocodex_846 (b s : Nat) : xall (fun _ a => xBm a) 2 b s codex_846 := And.intro (mocodex_844 b (2 * s)) (mocodex_845 (b + s) (2 * s))
theorem mocodex_847 (b s : Nat) : xall (fun _ a => xBm a) 1 b s codex_847 := And.intro mobx_342 mobx_no
theorem mocodex_848 (b s : Nat) : xall (fun _ a => xBm a) 1 b s codex_848 := And.intro mobx_854 mobx_no
theorem mocodex_849 (b s : Nat) : xall (fun _ a => xBm a) 2 b s codex_849 := And.intro (mocodex_847 b (2 * s)) (mocodex_848 (b + s) (2 * s))
theorem mocodex_850 (b s : Nat) : xall (fun _ a => xBm a) 3 b s codex_850 := And.intro (mocodex_846 b (2 * s)) (mocodex_849 (b + s) (2 * s))
theorem mocodex_851 (b s : Nat) : xall (fun _ a => xBm a) 1 b s codex_851 := And.intro mobx_214 mobx_no
theorem mocodex_852 (b s : Nat) : xall (fun _ a => xBm a) 1 b s codex_852 := And.intro mobx_726 mobx_no
theorem mocodex_853 (b s : Nat) : xall (fun _ a => xBm a) 2 b s codex_853 := And.intro (mocodex_851 b (2 * s)) (mocodex_852 (b + s) (2 * s))
theorem mocodex_854 (b s : Nat) : xall (fun _ a => xBm a) 1 b s codex_854 := And.intro mobx_470 mobx_no
theorem mocodex_855 (b s : Nat) : xall (fun _ a => xBm a) 1 b s codex_855 := And.intro mobx_982 mobx_no
theorem mocodex_856 (b s : Nat) : xall (fun _ a => xBm a) 2 b s codex_856 := And.intro (mocodex_854 b (2 * s)) (mocodex_855 (b + s) (2 * s))
theorem mocodex_857 (b s : Nat) : xall (fun _ a => xBm a) 3 b s codex_857 := And.intro (mocodex_853 b (2 * s)) (mocodex_856 (b + s) (2 * s))
theorem mocodex_858 (b s : Nat) : xall (fun _ a => xBm a) 4 b s codex_858 := And.intro (mocodex_850 b (2 * s)) (mocodex_857 (b + s) (2 * s))
theorem mocodex_859 (b s : Nat) : xall (fun _ a => xBm a) 5 b s codex_859 := And.intro (mocodex_843 b (2 * s)) (mocodex_858 (b + s) (2 * s))
theorem mocodex_860 (b s : Nat) : xall (fun _ a => xBm a) 1 b s codex_860 := And.intro mobx_54 mobx_1078
theorem mocodex_861 (b s : Nat) : xall (fun _ a => xBm a) 1 b s codex_861 := And.intro mobx_566 mobx_no
theorem mocodex_862 (b s : Nat) : xall (fun _ a => xBm a) 2 b s codex_862 := And.intro (mocodex_860 b (2 * s)) (mocodex_861 (b + s) (2 * s))
theorem mocodex_863 (b s : Nat) : xall (fun _ a => xBm a) 1 b s codex_863 := And.intro mobx_310 mobx_no
theorem mocodex_864 (b s : Nat) : xall (fun _ a => xBm a) 1 b s codex_864 := And.intro mobx_822 mobx_no
theorem mocodex_865 (b s : Nat) : xall (fun _ a => xBm a) 2 b s codex_865 := And.intro (mocodex_863 b (2 * s)) (mocodex_864 (b + s) (2 * s))
theorem mocodex_866 (b s : Nat) : xall (fun _ a => xBm a) 3 b s codex_866 := And.intro (mocodex_862 b (2 * s)) (mocodex_865 (b + s) (2 * s))
theorem mocodex_867 (b s : Nat) : xall (fun _ a => xBm a) 1 b s codex_867 := And.intro mobx_182 mobx_no
theorem mocodex_868 (b s : Nat) : xall (fun _ a => xBm a) 1 b s codex_868 := And.intro mobx_694 mobx_no
theorem mocodex_869 (b s : Nat) : xall (fun _ a => xBm a) 2 b s codex_869 := And.intro (mocodex_867 b (2 * s)) (mocodex_868 (b + s) (2 * s))
theorem mocodex_870 (b s : Nat) : xall (fun _ a => xBm a) 1 b s codex_870 := And.intro mobx_438 mobx_no
theorem mocodex_871 (b s : Nat) : xall (fun _ a => xBm a) 1 b s codex_871 := And.intro mobx_950 mobx_no
theorem mocodex_872 (b s : Nat) : xall (fun _ a => xBm a) 2 b s codex_872 := And.intro (mocodex_870 b (2 * s)) (mocodex_871 (b + s) (2 * s))
theorem mocodex_873 (b s : Nat) : xall (fun _ a => xBm a) 3 b s codex_873 := And.intro (mocodex_869 b (2 * s)) (mocodex_872 (b + s) (2 * s))
theorem mocodex_874 (b s : Nat) : xall (fun _ a => xBm a) 4 b s codex_874 := And.intro (mocodex_866 b (2 * s)) (mocodex_873 (b + s) (2 * s))
theorem mocodex_875 (b s : Nat) : xall (fun _ a => xBm a) 1 b s codex_875 := And.intro mobx_118 mobx_1142
theorem mocodex_876 (b s : Nat) : xall (fun _ a => xBm a) 1 b s codex_876 := And.intro mobx_630 mobx_no
theorem mocodex_877 (b s : Nat) : xall (fun _ a => xBm a) 2 b s codex_877 := And.intro (mocodex_875 b (2 * s)) (mocodex_876 (b + s) (2 * s))
theorem mocodex_878 (b s : Nat) : xall (fun _ a => xBm a) 1 b s codex_878 := And.intro mobx_374 mobx_no
theorem mocodex_879 (b s : Nat) : xall (fun _ a => xBm a) 1 b s codex_879 := And.intro mobx_886 mobx_no
theorem mocodex_880 (b s : Nat) : xall (fun _ a => xBm a) 2 b s codex_880 := And.intro (mocodex_878 b (2 * s)) (mocodex_879 (b + s) (2 * s))
theorem mocodex_881 (b s : Nat) : xall (fun _ a => xBm a) 3 b s codex_881 := And.intro (mocodex_877 b (2 * s)) (mocodex_880 (b + s) (2 * s))
theorem mocodex_882 (b s : Nat) : xall (fun _ a => xBm a) 1 b s codex_882 := And.intro mobx_246 mobx_no
theorem mocodex_883 (b s : Nat) : xall (fun _ a => xBm a) 1 b s codex_883 := And.intro mobx_758 mobx_no
theorem mocodex_884 (b s : Nat) : xall (fun _ a => xBm a) 2 b s codex_884 := And.intro (mocodex_882 b (2 * s)) (mocodex_883 (b + s) (2 * s))
theorem mocodex_885 (b s : Nat) : xall (fun _ a => xBm a) 1 b s codex_885 := And.intro mobx_502 mobx_no
theorem mocodex_886 (b s : Nat) : xall (fun _ a => xBm a) 1 b s codex_886 := And.intro mobx_1014 mobx_no
theorem mocodex_887 (b s : Nat) : xall (fun _ a => xBm a) 2 b s codex_887 := And.intro (mocodex_885 b (2 * s)) (mocodex_886 (b + s) (2 * s))
theorem mocodex_888 (b s : Nat) : xall (fun _ a => xBm a) 3 b s codex_888 := And.intro (mocodex_884 b (2 * s)) (mocodex_887 (b + s) (2 * s))
theorem mocodex_889 (b s : Nat) : xall (fun _ a => xBm a) 4 b s codex_889 := And.intro (mocodex_881 b (2 * s)) (mocodex_888 (b + s) (2 * s))
theorem mocodex_890 (b s : Nat) : xall (fun _ a => xBm a) 5 b s codex_890 := And.intro (mocodex_874 b (2 * s)) (mocodex_889 (b + s) (2 * s))
theorem mocodex_891 (b s : Nat) : xall (fun _ a => xBm a) 6 b s codex_891 := And.intro (mocodex_859 b (2 * s)) (mocodex_890 (b + s) (2 * s))
theorem mocodex_892 (b s : Nat) : xall (fun _ a => xBm a) 7 b s codex_892 := And.intro (mocodex_828 b (2 * s)) (mocodex_891 (b + s) (2 * s))
theorem mocodex_893 (b s : Nat) : xall (fun _ a => xBm a) 1 b s codex_893 := And.intro mobx_14 mobx_1038
theorem mocodex_894 (b s : Nat) : xall (fun _ a => xBm a) 1 b s codex_894 := And.intro mobx_526 mobx_no
theorem mocodex_895 (b s : Nat) : xall (fun _ a => xBm a) 2 b s codex_895 := And.intro (mocodex_893 b (2 * s)) (mocodex_894 (b + s) (2 * s))
theorem mocodex_896 (b s : Nat) : xall (fun _ a => xBm a) 1 b s codex_896 := And.intro mobx_270 mobx_no
theorem mocodex_897 (b s : Nat) : xall (fun _ a => xBm a) 1 b s codex_897 := And.intro mobx_782 mobx_no
theorem mocodex_898 (b s : Nat) : xall (fun _ a => xBm a) 2 b s codex_898 := And.intro (mocodex_896 b (2 * s)) (mocodex_897 (b + s) (2 * s))
theorem mocodex_899 (b s : Nat) : xall (fun _ a => xBm a) 3 b s codex_899 := And.intro (mocodex_895 b (2 * s)) (mocodex_898 (b + s) (2 * s))
theorem mocodex_900 (b s : Nat) : xall (fun _ a => xBm a) 1 b s codex_900 := And.intro mobx_142 mobx_1166
theorem mocodex_901 (b s : Nat) : xall (fun _ a => xBm a) 1 b s codex_901 := And.intro mobx_654 mobx_no
theorem mocodex_902 (b s : Nat) : xall (fun _ a => xBm a) 2 b s codex_902 := And.intro (mocodex_900 b (2 * s)) (mocodex_901 (b + s) (2 * s))
theorem mocodex_903 (b s : Nat) : xall (fun _ a => xBm a) 1 b s codex_903 := And.intro mobx_398 mobx_no
theorem mocodex_904 (b s : Nat) : xall (fun _ a => xBm a) 1 b s codex_904 := And.intro mobx_910 mobx_no
theorem mocodex_905 (b s : Nat) : xall (fun _ a => xBm a) 2 b s codex_905 := And.intro (mocodex_903 b (2 * s)) (mocodex_904 (b + s) (2 * s))
theorem mocodex_906 (b s : Nat) : xall (fun _ a => xBm a) 3 b s codex_906 := And.intro (mocodex_902 b (2 * s)) (mocodex_905 (b + s) (2 * s))
theorem mocodex_907 (b s : Nat) : xall (fun _ a => xBm a) 4 b s codex_907 := And.intro (mocodex_899 b (2 * s)) (mocodex_906 (b + s) (2 * s))
theorem mocodex_908 (b s : Nat) : xall (fun _ a => xBm a) 1 b s codex_908 := And.intro mobx_78 mobx_1102
theorem mocodex_909 (b s : Nat) : xall (fun _ a => xBm a) 1 b s codex_909 := And.intro mobx_590 mobx_no
theorem mocodex_910 (b s : Nat) : xall (fun _ a => xBm a) 2 b s codex_910 := And.intro (mocodex_908 b (2 * s)) (mocodex_909 (b + s) (2 * s))
theorem mocodex_911 (b s : Nat) : xall (fun _ a => xBm a) 1 b s codex_911 := And.intro mobx_334 mobx_no
theorem mocodex_912 (b s : Nat) : xall (fun _ a => xBm a) 1 b s codex_912 := And.intro mobx_846 mobx_no
theorem mocodex_913 (b s : Nat) : xall (fun _ a => xBm a) 2 b s codex_913 := And.intro (mocodex_911 b (2 * s)) (mocodex_912 (b + s) (2 * s))
theorem mocodex_914 (b s : Nat) : xall (fun _ a => xBm a) 3 b s codex_914 := And.intro (mocodex_910 b (2 * s)) (mocodex_913 (b + s) (2 * s))
theorem mocodex_915 (b s : Nat) : xall (fun _ a => xBm a) 1 b s codex_915 := And.intro mobx_206 mobx_no
theorem mocodex_916 (b s : Nat) : xall (fun _ a => xBm a) 1 b s codex_916 := And.intro mobx_718 mobx_no
theorem mocodex_917 (b s : Nat) : xall (fun _ a => xBm a) 2 b s codex_917 := And.intro (mocodex_915 b (2 * s)) (mocodex_916 (b + s) (2 * s))
theorem mocodex_918 (b s : Nat) : xall (fun _ a => xBm a) 1 b s codex_918 := And.intro mobx_462 mobx_no
theorem mocodex_919 (b s : Nat) : xall (fun _ a => xBm a) 1 b s codex_919 := And.intro mobx_974 mobx_no
theorem mocodex_920 (b s : Nat) : xall (fun _ a => xBm a) 2 b s codex_920 := And.intro (mocodex_918 b (2 * s)) (mocodex_919 (b + s) (2 * s))
theorem mocodex_921 (b s : Nat) : xall (fun _ a => xBm a) 3 b s codex_921 := And.intro (mocodex_917 b (2 * s)) (mocodex_920 (b + s) (2 * s))
theorem mocodex_922 (b s : Nat) : xall (fun _ a => xBm a) 4 b s codex_922 := And.intro (mocodex_914 b (2 * s)) (mocodex_921 (b + s) (2 * s))
theorem mocodex_923 (b s : Nat) : xall (fun _ a => xBm a) 5 b s codex_923 := And.intro (mocodex_907 b (2 * s)) (mocodex_922 (b + s) (2 * s))
theorem mocodex_924 (b s : Nat) : xall (fun _ a => xBm a) 1 b s codex_924 := And.intro mobx_46 mobx_1070
theorem mocodex_925 (b s : Nat) : xall (fun _ a => xBm a) 1 b s codex_925 := And.intro mobx_558 mobx_no
theorem mocodex_926 (b s : Nat) : xall (fun _ a => xBm a) 2 b s codex_926 := And.intro (mocodex_924 b (2 * s)) (mocodex_925 (b + s) (2 * s))
theorem mocodex_927 (b s : Nat) : xall (fun _ a => xBm a) 1 b s codex_927 := And.intro mobx_302 mobx_no
theorem mocodex_928 (b s : Nat) : xall (fun _ a => xBm a) 1 b s codex_928 := And.intro mobx_814 mobx_no
theorem mocodex_929 (b s : Nat) : xall (fun _ a => xBm a) 2 b s codex_929 := And.intro (mocodex_927 b (2 * s)) (mocodex_928 (b + s) (2 * s))
theorem mocodex_930 (b s : Nat) : xall (fun _ a => xBm a) 3 b s codex_930 := And.intro (mocodex_926 b (2 * s)) (mocodex_929 (b + s) (2 * s))
theorem mocodex_931 (b s : Nat) : xall (fun _ a => xBm a) 1 b s codex_931 := And.intro mobx_174 mobx_no
theorem mocodex_932 (b s : Nat) : xall (fun _ a => xBm a) 1 b s codex_932 := And.intro mobx_686 mobx_no
theorem mocodex_933 (b s : Nat) : xall (fun _ a => xBm a) 2 b s codex_933 := And.intro (mocodex_931 b (2 * s)) (mocodex_932 (b + s) (2 * s))
theorem mocodex_934 (b s : Nat) : xall (fun _ a => xBm a) 1 b s codex_934 := And.intro mobx_430 mobx_no
theorem mocodex_935 (b s : Nat) : xall (fun _ a => xBm a) 1 b s codex_935 := And.intro mobx_942 mobx_no
theorem mocodex_936 (b s : Nat) : xall (fun _ a => xBm a) 2 b s codex_936 := And.intro (mocodex_934 b (2 * s)) (mocodex_935 (b + s) (2 * s))
theorem mocodex_937 (b s : Nat) : xall (fun _ a => xBm a) 3 b s codex_937 := And.intro (mocodex_933 b (2 * s)) (mocodex_936 (b + s) (2 * s))
theorem mocodex_938 (b s : Nat) : xall (fun _ a => xBm a) 4 b s codex_938 := And.intro (mocodex_930 b (2 * s)) (mocodex_937 (b + s) (2 * s))
theorem mocodex_939 (b s : Nat) : xall (fun _ a => xBm a) 1 b s codex_939 := And.intro mobx_110 mobx_1134
theorem mocodex_940 (b s : Nat) : xall (fun _ a => xBm a) 1 b s codex_940 := And.intro mobx_622 mobx_no
theorem mocodex_941 (b s : Nat) : xall (fun _ a => xBm a) 2 b s codex_941 := And.intro (mocodex_939 b (2 * s)) (mocodex_940 (b + s) (2 * s))
theorem mocodex_942 (b s : Nat) : xall (fun _ a => xBm a) 1 b s codex_942 := And.intro mobx_366 mobx_no
theorem mocodex_943 (b s : Nat) : xall (fun _ a => xBm a) 1 b s codex_943 := And.intro mobx_878 mobx_no
theorem mocodex_944 (b s : Nat) : xall (fun _ a => xBm a) 2 b s codex_944 := And.intro (mocodex_942 b (2 * s)) (mocodex_943 (b + s) (2 * s))
theorem mocodex_945 (b s : Nat) : xall (fun _ a => xBm a) 3 b s codex_945 := And.intro (mocodex_941 b (2 * s)) (mocodex_944 (b + s) (2 * s))
theorem mocodex_946 (b s : Nat) : xall (fun _ a => xBm a) 1 b s codex_946 := And.intro mobx_238 mobx_no
theorem mocodex_947 (b s : Nat) : xall (fun _ a => xBm a) 1 b s codex_947 := And.intro mobx_750 mobx_no
theorem mocodex_948 (b s : Nat) : xall (fun _ a => xBm a) 2 b s codex_948 := And.intro (mocodex_946 b (2 * s)) (mocodex_947 (b + s) (2 * s))
theorem mocodex_949 (b s : Nat) : xall (fun _ a => xBm a) 1 b s codex_949 := And.intro mobx_494 mobx_no
theorem mocodex_950 (b s : Nat) : xall (fun _ a => xBm a) 1 b s codex_950 := And.intro mobx_1006 mobx_no
theorem mocodex_951 (b s : Nat) : xall (fun _ a => xBm a) 2 b s codex_951 := And.intro (mocodex_949 b (2 * s)) (mocodex_950 (b + s) (2 * s))
theorem mocodex_952 (b s : Nat) : xall (fun _ a => xBm a) 3 b s codex_952 := And.intro (mocodex_948 b (2 * s)) (mocodex_951 (b + s) (2 * s))
theorem mocodex_953 (b s : Nat) : xall (fun _ a => xBm a) 4 b s codex_953 := And.intro (mocodex_945 b (2 * s)) (mocodex_952 (b + s) (2 * s))
theorem mocodex_954 (b s : Nat) : xall (fun _ a => xBm a) 5 b s codex_954 := And.intro (mocodex_938 b (2 * s)) (mocodex_953 (b + s) (2 * s))
theorem mocodex_955 (b s : Nat) : xall (fun _ a => xBm a) 6 b s codex_955 := And.intro (mocodex_923 b (2 * s)) (mocodex_954 (b + s) (2 * s))
theorem mocodex_956 (b s : Nat) : xall (fun _ a => xBm a) 1 b s codex_956 := And.intro mobx_30 mobx_1054
theorem mocodex_957 (b s : Nat) : xall (fun _ a => xBm a) 1 b s codex_957 := And.intro mobx_542 mobx_no
theorem mocodex_958 (b s : Nat) : xall (fun _ a => xBm a) 2 b s codex_958 := And.intro (mocodex_956 b (2 * s)) (mocodex_957 (b + s) (2 * s))
theorem mocodex_959 (b s : Nat) : xall (fun _ a => xBm a) 1 b s codex_959 := And.intro mobx_286 mobx_no
theorem mocodex_960 (b s : Nat) : xall (fun _ a => xBm a) 1 b s codex_960 := And.intro mobx_798 mobx_no
theorem mocodex_961 (b s : Nat) : xall (fun _ a => xBm a) 2 b s codex_961 := And.intro (mocodex_959 b (2 * s)) (mocodex_960 (b + s) (2 * s))
theorem mocodex_962 (b s : Nat) : xall (fun _ a => xBm a) 3 b s codex_962 := And.intro (mocodex_958 b (2 * s)) (mocodex_961 (b + s) (2 * s))
theorem mocodex_963 (b s : Nat) : xall (fun _ a => xBm a) 1 b s codex_963 := And.intro mobx_158 mobx_1182
theorem mocodex_964 (b s : Nat) : xall (fun _ a => xBm a) 1 b s codex_964 := And.intro mobx_670 mobx_no
theorem mocodex_965 (b s : Nat) : xall (fun _ a => xBm a) 2 b s codex_965 := And.intro (mocodex_963 b (2 * s)) (mocodex_964 (b + s) (2 * s))
theorem mocodex_966 (b s : Nat) : xall (fun _ a => xBm a) 1 b s codex_966 := And.intro mobx_414 mobx_no
theorem mocodex_967 (b s : Nat) : xall (fun _ a => xBm a) 1 b s codex_967 := And.intro mobx_926 mobx_no
theorem mocodex_968 (b s : Nat) : xall (fun _ a => xBm a) 2 b s codex_968 := And.intro (mocodex_966 b (2 * s)) (mocodex_967 (b + s) (2 * s))
theorem mocodex_969 (b s : Nat) : xall (fun _ a => xBm a) 3 b s codex_969 := And.intro (mocodex_965 b (2 * s)) (mocodex_968 (b + s) (2 * s))
theorem mocodex_970 (b s : Nat) : xall (fun _ a => xBm a) 4 b s codex_970 := And.intro (mocodex_962 b (2 * s)) (mocodex_969 (b + s) (2 * s))
theorem mocodex_971 (b s : Nat) : xall (fun _ a => xBm a) 1 b s codex_971 := And.intro mobx_94 mobx_1118
theorem mocodex_972 (b s : Nat) : xall (fun _ a => xBm a) 1 b s codex_972 := And.intro mobx_606 mobx_no
theorem mocodex_973 (b s : Nat) : xall (fun _ a => xBm a) 2 b s codex_973 := And.intro (mocodex_971 b (2 * s)) (mocodex_972 (b + s) (2 * s))
theorem mocodex_974 (b s : Nat) : xall (fun _ a => xBm a) 1 b s codex_974 := And.intro mobx_350 mobx_no
theorem mocodex_975 (b s : Nat) : xall (fun _ a => xBm a) 1 b s codex_975 := And.intro mobx_862 mobx_no
theorem mocodex_976 (b s : Nat) : xall (fun _ a => xBm a) 2 b s codex_976 := And.intro (mocodex_974 b (2 * s)) (mocodex_975 (b + s) (2 * s))
theorem mocodex_977 (b s : Nat) : xall (fun _ a => xBm a) 3 b s codex_977 := And.intro (mocodex_973 b (2 * s)) (mocodex_976 (b + s) (2 * s))
theorem mocodex_978 (b s : Nat) : xall (fun _ a => xBm a) 1 b s codex_978 := And.intro mobx_222 mobx_no
theorem mocodex_979 (b s : Nat) : xall (fun _ a => xBm a) 1 b s codex_979 := And.intro mobx_734 mobx_no
theorem mocodex_980 (b s : Nat) : xall (fun _ a => xBm a) 2 b s codex_980 := And.intro (mocodex_978 b (2 * s)) (mocodex_979 (b + s) (2 * s))
theorem mocodex_981 (b s : Nat) : xall (fun _ a => xBm a) 1 b s codex_981 := And.intro mobx_478 mobx_no
theorem mocodex_982 (b s : Nat) : xall (fun _ a => xBm a) 1 b s codex_982 := And.intro mobx_990 mobx_no
theorem mocodex_983 (b s : Nat) : xall (fun _ a => xBm a) 2 b s codex_983 := And.intro (mocodex_981 b (2 * s)) (mocodex_982 (b + s) (2 * s))
theorem mocodex_984 (b s : Nat) : xall (fun _ a => xBm a) 3 b s codex_984 := And.intro (mocodex_980 b (2 * s)) (mocodex_983 (b + s) (2 * s))
theorem mocodex_985 (b s : Nat) : xall (fun _ a => xBm a) 4 b s codex_985 := And.intro (mocodex_977 b (2 * s)) (mocodex_984 (b + s) (2 * s))
theorem mocodex_986 (b s : Nat) : xall (fun _ a => xBm a) 5 b s codex_986 := And.intro (mocodex_970 b (2 * s)) (mocodex_985 (b + s) (2 * s))
theorem mocodex_987 (b s : Nat) : xall (fun _ a => xBm a) 1 b s codex_987 := And.intro mobx_62 mobx_1086
theorem mocodex_988 (b s : Nat) : xall (fun _ a => xBm a) 1 b s codex_988 := And.intro mobx_574 mobx_no
theorem mocodex_989 (b s : Nat) : xall (fun _ a => xBm a) 2 b s codex_989 := And.intro (mocodex_987 b (2 * s)) (mocodex_988 (b + s) (2 * s))
theorem mocodex_990 (b s : Nat) : xall (fun _ a => xBm a) 1 b s codex_990 := And.intro mobx_318 mobx_no
theorem mocodex_991 (b s : Nat) : xall (fun _ a => xBm a) 1 b s codex_991 := And.intro mobx_830 mobx_no
theorem mocodex_992 (b s : Nat) : xall (fun _ a => xBm a) 2 b s codex_992 := And.intro (mocodex_990 b (2 * s)) (mocodex_991 (b + s) (2 * s))
theorem mocodex_993 (b s : Nat) : xall (fun _ a => xBm a) 3 b s codex_993 := And.intro (mocodex_989 b (2 * s)) (mocodex_992 (b + s) (2 * s))
theorem mocodex_994 (b s : Nat) : xall (fun _ a => xBm a) 1 b s codex_994 := And.intro mobx_190 mobx_no
theorem mocodex_995 (b s : Nat) : xall (fun _ a => xBm a) 1 b s codex_995 := And.intro mobx_702 mobx_no
theorem mocodex_996 (b s : Nat) : xall (fun _ a => xBm a) 2 b s codex_996 := And.intro (mocodex_994 b (2 * s)) (mocodex_995 (b + s) (2 * s))
theorem mocodex_997 (b s : Nat) : xall (fun _ a => xBm a) 1 b s codex_997 := And.intro mobx_446 mobx_no
theorem mocodex_998 (b s : Nat) : xall (fun _ a => xBm a) 1 b s codex_998 := And.intro mobx_958 mobx_no
theorem mocodex_999 (b s : Nat) : xall (fun _ a => xBm a) 2 b s codex_999 := And.intro (mocodex_997 b (2 * s)) (mocodex_998 (b + s) (2 * s))
theorem mocodex_1000 (b s : Nat) : xall (fun _ a => xBm a) 3 b s codex_1000 := And.intro (mocodex_996 b (2 * s)) (mocodex_999 (b + s) (2 * s))
theorem mocodex_1001 (b s : Nat) : xall (fun _ a => xBm a) 4 b s codex_1001 := And.intro (mocodex_993 b (2 * s)) (mocodex_1000 (b + s) (2 * s))
theorem mocodex_1002 (b s : Nat) : xall (fun _ a => xBm a) 1 b s codex_1002 := And.intro mobx_126 mobx_1150
theorem mocodex_1003 (b s : Nat) : xall (fun _ a => xBm a) 1 b s codex_1003 := And.intro mobx_638 mobx_no
theorem mocodex_1004 (b s : Nat) : xall (fun _ a => xBm a) 2 b s codex_1004 := And.intro (mocodex_1002 b (2 * s)) (mocodex_1003 (b + s) (2 * s))
theorem mocodex_1005 (b s : Nat) : xall (fun _ a => xBm a) 1 b s codex_1005 := And.intro mobx_382 mobx_no
theorem mocodex_1006 (b s : Nat) : xall (fun _ a => xBm a) 1 b s codex_1006 := And.intro mobx_894 mobx_no
theorem mocodex_1007 (b s : Nat) : xall (fun _ a => xBm a) 2 b s codex_1007 := And.intro (mocodex_1005 b (2 * s)) (mocodex_1006 (b + s) (2 * s))
theorem mocodex_1008 (b s : Nat) : xall (fun _ a => xBm a) 3 b s codex_1008 := And.intro (mocodex_1004 b (2 * s)) (mocodex_1007 (b + s) (2 * s))
theorem mocodex_1009 (b s : Nat) : xall (fun _ a => xBm a) 1 b s codex_1009 := And.intro mobx_254 mobx_no
theorem mocodex_1010 (b s : Nat) : xall (fun _ a => xBm a) 1 b s codex_1010 := And.intro mobx_766 mobx_no
theorem mocodex_1011 (b s : Nat) : xall (fun _ a => xBm a) 2 b s codex_1011 := And.intro (mocodex_1009 b (2 * s)) (mocodex_1010 (b + s) (2 * s))
theorem mocodex_1012 (b s : Nat) : xall (fun _ a => xBm a) 1 b s codex_1012 := And.intro mobx_510 mobx_no
theorem mocodex_1013 (b s : Nat) : xall (fun _ a => xBm a) 1 b s codex_1013 := And.intro mobx_1022 mobx_no
theorem mocodex_1014 (b s : Nat) : xall (fun _ a => xBm a) 2 b s codex_1014 := And.intro (mocodex_1012 b (2 * s)) (mocodex_1013 (b + s) (2 * s))
theorem mocodex_1015 (b s : Nat) : xall (fun _ a => xBm a) 3 b s codex_1015 := And.intro (mocodex_1011 b (2 * s)) (mocodex_1014 (b + s) (2 * s))
theorem mocodex_1016 (b s : Nat) : xall (fun _ a => xBm a) 4 b s codex_1016 := And.intro (mocodex_1008 b (2 * s)) (mocodex_1015 (b + s) (2 * s))
theorem mocodex_1017 (b s : Nat) : xall (fun _ a => xBm a) 5 b s codex_1017 := And.intro (mocodex_1001 b (2 * s)) (mocodex_1016 (b + s) (2 * s))
theorem mocodex_1018 (b s : Nat) : xall (fun _ a => xBm a) 6 b s codex_1018 := And.intro (mocodex_986 b (2 * s)) (mocodex_1017 (b + s) (2 * s))
theorem mocodex_1019 (b s : Nat) : xall (fun _ a => xBm a) 7 b s codex_1019 := And.intro (mocodex_955 b (2 * s)) (mocodex_1018 (b + s) (2 * s))
theorem mocodex_1020 (b s : Nat) : xall (fun _ a => xBm a) 8 b s codex_1020 := And.intro (mocodex_892 b (2 * s)) (mocodex_1019 (b + s) (2 * s))
theorem mocodex_1021 (b s : Nat) : xall (fun _ a => xBm a) 9 b s codex_1021 := And.intro (mocodex_765 b (2 * s)) (mocodex_1020 (b + s) (2 * s))
theorem mocodex_1022 (b s : Nat) : xall (fun _ a => xBm a) 10 b s codex_1022 := And.intro (mocodex_510 b (2 * s)) (mocodex_1021 (b + s) (2 * s))
theorem mocodex_1023 (b s : Nat) : xall (fun _ a => xBm a) 1 b s codex_1023 := And.intro mobx_1 mobx_1025
theorem mocodex_1024 (b s : Nat) : xall (fun _ a => xBm a) 1 b s codex_1024 := And.intro mobx_513 mobx_no
theorem mocodex_1025 (b s : Nat) : xall (fun _ a => xBm a) 2 b s codex_1025 := And.intro (mocodex_1023 b (2 * s)) (mocodex_1024 (b + s) (2 * s))
theorem mocodex_1026 (b s : Nat) : xall (fun _ a => xBm a) 1 b s codex_1026 := And.intro mobx_257 mobx_no
theorem mocodex_1027 (b s : Nat) : xall (fun _ a => xBm a) 1 b s codex_1027 := And.intro mobx_769 mobx_no
theorem mocodex_1028 (b s : Nat) : xall (fun _ a => xBm a) 2 b s codex_1028 := And.intro (mocodex_1026 b (2 * s)) (mocodex_1027 (b + s) (2 * s))
theorem mocodex_1029 (b s : Nat) : xall (fun _ a => xBm a) 3 b s codex_1029 := And.intro (mocodex_1025 b (2 * s)) (mocodex_1028 (b + s) (2 * s))
theorem mocodex_1030 (b s : Nat) : xall (fun _ a => xBm a) 1 b s codex_1030 := And.intro mobx_129 mobx_1153
theorem mocodex_1031 (b s : Nat) : xall (fun _ a => xBm a) 1 b s codex_1031 := And.intro mobx_641 mobx_no
theorem mocodex_1032 (b s : Nat) : xall (fun _ a => xBm a) 2 b s codex_1032 := And.intro (mocodex_1030 b (2 * s)) (mocodex_1031 (b + s) (2 * s))
theorem mocodex_1033 (b s : Nat) : xall (fun _ a => xBm a) 1 b s codex_1033 := And.intro mobx_385 mobx_no
theorem mocodex_1034 (b s : Nat) : xall (fun _ a => xBm a) 1 b s codex_1034 := And.intro mobx_897 mobx_no
theorem mocodex_1035 (b s : Nat) : xall (fun _ a => xBm a) 2 b s codex_1035 := And.intro (mocodex_1033 b (2 * s)) (mocodex_1034 (b + s) (2 * s))
theorem mocodex_1036 (b s : Nat) : xall (fun _ a => xBm a) 3 b s codex_1036 := And.intro (mocodex_1032 b (2 * s)) (mocodex_1035 (b + s) (2 * s))
theorem mocodex_1037 (b s : Nat) : xall (fun _ a => xBm a) 4 b s codex_1037 := And.intro (mocodex_1029 b (2 * s)) (mocodex_1036 (b + s) (2 * s))
theorem mocodex_1038 (b s : Nat) : xall (fun _ a => xBm a) 1 b s codex_1038 := And.intro mobx_65 mobx_1089
theorem mocodex_1039 (b s : Nat) : xall (fun _ a => xBm a) 1 b s codex_1039 := And.intro mobx_577 mobx_no
theorem mocodex_1040 (b s : Nat) : xall (fun _ a => xBm a) 2 b s codex_1040 := And.intro (mocodex_1038 b (2 * s)) (mocodex_1039 (b + s) (2 * s))
theorem mocodex_1041 (b s : Nat) : xall (fun _ a => xBm a) 1 b s codex_1041 := And.intro mobx_321 mobx_no
theorem mocodex_1042 (b s : Nat) : xall (fun _ a => xBm a) 1 b s codex_1042 := And.intro mobx_833 mobx_no
theorem mocodex_1043 (b s : Nat) : xall (fun _ a => xBm a) 2 b s codex_1043 := And.intro (mocodex_1041 b (2 * s)) (mocodex_1042 (b + s) (2 * s))
theorem mocodex_1044 (b s : Nat) : xall (fun _ a => xBm a) 3 b s codex_1044 := And.intro (mocodex_1040 b (2 * s)) (mocodex_1043 (b + s) (2 * s))
theorem mocodex_1045 (b s : Nat) : xall (fun _ a => xBm a) 1 b s codex_1045 := And.intro mobx_193 mobx_no
theorem mocodex_1046 (b s : Nat) : xall (fun _ a => xBm a) 1 b s codex_1046 := And.intro mobx_705 mobx_no
theorem mocodex_1047 (b s : Nat) : xall (fun _ a => xBm a) 2 b s codex_1047 := And.intro (mocodex_1045 b (2 * s)) (mocodex_1046 (b + s) (2 * s))
theorem mocodex_1048 (b s : Nat) : xall (fun _ a => xBm a) 1 b s codex_1048 := And.intro mobx_449 mobx_no
theorem mocodex_1049 (b s : Nat) : xall (fun _ a => xBm a) 1 b s codex_1049 := And.intro mobx_961 mobx_no
theorem mocodex_1050 (b s : Nat) : xall (fun _ a => xBm a) 2 b s codex_1050 := And.intro (mocodex_1048 b (2 * s)) (mocodex_1049 (b + s) (2 * s))
theorem mocodex_1051 (b s : Nat) : xall (fun _ a => xBm a) 3 b s codex_1051 := And.intro (mocodex_1047 b (2 * s)) (mocodex_1050 (b + s) (2 * s))
theorem mocodex_1052 (b s : Nat) : xall (fun _ a => xBm a) 4 b s codex_1052 := And.intro (mocodex_1044 b (2 * s)) (mocodex_1051 (b + s) (2 * s))
theorem mocodex_1053 (b s : Nat) : xall (fun _ a => xBm a) 5 b s codex_1053 := And.intro (mocodex_1037 b (2 * s)) (mocodex_1052 (b + s) (2 * s))
theorem mocodex_1054 (b s : Nat) : xall (fun _ a => xBm a) 1 b s codex_1054 := And.intro mobx_33 mobx_1057
theorem mocodex_1055 (b s : Nat) : xall (fun _ a => xBm a) 1 b s codex_1055 := And.intro mobx_545 mobx_no
theorem mocodex_1056 (b s : Nat) : xall (fun _ a => xBm a) 2 b s codex_1056 := And.intro (mocodex_1054 b (2 * s)) (mocodex_1055 (b + s) (2 * s))
theorem mocodex_1057 (b s : Nat) : xall (fun _ a => xBm a) 1 b s codex_1057 := And.intro mobx_289 mobx_no
theorem mocodex_1058 (b s : Nat) : xall (fun _ a => xBm a) 1 b s codex_1058 := And.intro mobx_801 mobx_no
theorem mocodex_1059 (b s : Nat) : xall (fun _ a => xBm a) 2 b s codex_1059 := And.intro (mocodex_1057 b (2 * s)) (mocodex_1058 (b + s) (2 * s))
theorem mocodex_1060 (b s : Nat) : xall (fun _ a => xBm a) 3 b s codex_1060 := And.intro (mocodex_1056 b (2 * s)) (mocodex_1059 (b + s) (2 * s))
theorem mocodex_1061 (b s : Nat) : xall (fun _ a => xBm a) 1 b s codex_1061 := And.intro mobx_161 mobx_1185
theorem mocodex_1062 (b s : Nat) : xall (fun _ a => xBm a) 1 b s codex_1062 := And.intro mobx_673 mobx_no
theorem mocodex_1063 (b s : Nat) : xall (fun _ a => xBm a) 2 b s codex_1063 := And.intro (mocodex_1061 b (2 * s)) (mocodex_1062 (b + s) (2 * s))
theorem mocodex_1064 (b s : Nat) : xall (fun _ a => xBm a) 1 b s codex_1064 := And.intro mobx_417 mobx_no
theorem mocodex_1065 (b s : Nat) : xall (fun _ a => xBm a) 1 b s codex_1065 := And.intro mobx_929 mobx_no
theorem mocodex_1066 (b s : Nat) : xall (fun _ a => xBm a) 2 b s codex_1066 := And.intro (mocodex_1064 b (2 * s)) (mocodex_1065 (b + s) (2 * s))
theorem mocodex_1067 (b s : Nat) : xall (fun _ a => xBm a) 3 b s codex_1067 := And.intro (mocodex_1063 b (2 * s)) (mocodex_1066 (b + s) (2 * s))
theorem mocodex_1068 (b s : Nat) : xall (fun _ a => xBm a) 4 b s codex_1068 := And.intro (mocodex_1060 b (2 * s)) (mocodex_1067 (b + s) (2 * s))
theorem mocodex_1069 (b s : Nat) : xall (fun _ a => xBm a) 1 b s codex_1069 := And.intro mobx_97 mobx_1121
theorem mocodex_1070 (b s : Nat) : xall (fun _ a => xBm a) 1 b s codex_1070 := And.intro mobx_609 mobx_no
theorem mocodex_1071 (b s : Nat) : xall (fun _ a => xBm a) 2 b s codex_1071 := And.intro (mocodex_1069 b (2 * s)) (mocodex_1070 (b + s) (2 * s))
theorem mocodex_1072 (b s : Nat) : xall (fun _ a => xBm a) 1 b s codex_1072 := And.intro mobx_353 mobx_no
theorem mocodex_1073 (b s : Nat) : xall (fun _ a => xBm a) 1 b s codex_1073 := And.intro mobx_865 mobx_no
theorem mocodex_1074 (b s : Nat) : xall (fun _ a => xBm a) 2 b s codex_1074 := And.intro (mocodex_1072 b (2 * s)) (mocodex_1073 (b + s) (2 * s))
theorem mocodex_1075 (b s : Nat) : xall (fun _ a => xBm a) 3 b s codex_1075 := And.intro (mocodex_1071 b (2 * s)) (mocodex_1074 (b + s) (2 * s))
theorem mocodex_1076 (b s : Nat) : xall (fun _ a => xBm a) 1 b s codex_1076 := And.intro mobx_225 mobx_no
theorem mocodex_1077 (b s : Nat) : xall (fun _ a => xBm a) 1 b s codex_1077 := And.intro mobx_737 mobx_no
theorem mocodex_1078 (b s : Nat) : xall (fun _ a => xBm a) 2 b s codex_1078 := And.intro (mocodex_1076 b (2 * s)) (mocodex_1077 (b + s) (2 * s))
theorem mocodex_1079 (b s : Nat) : xall (fun _ a => xBm a) 1 b s codex_1079 := And.intro mobx_481 mobx_no
theorem mocodex_1080 (b s : Nat) : xall (fun _ a => xBm a) 1 b s codex_1080 := And.intro mobx_993 mobx_no
theorem mocodex_1081 (b s : Nat) : xall (fun _ a => xBm a) 2 b s codex_1081 := And.intro (mocodex_1079 b (2 * s)) (mocodex_1080 (b + s) (2 * s))
theorem mocodex_1082 (b s : Nat) : xall (fun _ a => xBm a) 3 b s codex_1082 := And.intro (mocodex_1078 b (2 * s)) (mocodex_1081 (b + s) (2 * s))
theorem mocodex_1083 (b s : Nat) : xall (fun _ a => xBm a) 4 b s codex_1083 := And.intro (mocodex_1075 b (2 * s)) (mocodex_1082 (b + s) (2 * s))
theorem mocodex_1084 (b s : Nat) : xall (fun _ a => xBm a) 5 b s codex_1084 := And.intro (mocodex_1068 b (2 * s)) (mocodex_1083 (b + s) (2 * s))
theorem mocodex_1085 (b s : Nat) : xall (fun _ a => xBm a) 6 b s codex_1085 := And.intro (mocodex_1053 b (2 * s)) (mocodex_1084 (b + s) (2 * s))
theorem mocodex_1086 (b s : Nat) : xall (fun _ a => xBm a) 1 b s codex_1086 := And.intro mobx_17 mobx_1041
theorem mocodex_1087 (b s : Nat) : xall (fun _ a => xBm a) 1 b s codex_1087 := And.intro mobx_529 mobx_no
theorem mocodex_1088 (b s : Nat) : xall (fun _ a => xBm a) 2 b s codex_1088 := And.intro (mocodex_1086 b (2 * s)) (mocodex_1087 (b + s) (2 * s))
theorem mocodex_1089 (b s : Nat) : xall (fun _ a => xBm a) 1 b s codex_1089 := And.intro mobx_273 mobx_no
theorem mocodex_1090 (b s : Nat) : xall (fun _ a => xBm a) 1 b s codex_1090 := And.intro mobx_785 mobx_no
theorem mocodex_1091 (b s : Nat) : xall (fun _ a => xBm a) 2 b s codex_1091 := And.intro (mocodex_1089 b (2 * s)) (mocodex_1090 (b + s) (2 * s))
theorem mocodex_1092 (b s : Nat) : xall (fun _ a => xBm a) 3 b s codex_1092 := And.intro (mocodex_1088 b (2 * s)) (mocodex_1091 (b + s) (2 * s))
theorem mocodex_1093 (b s : Nat) : xall (fun _ a => xBm a) 1 b s codex_1093 := And.intro mobx_145 mobx_1169
theorem mocodex_1094 (b s : Nat) : xall (fun _ a => xBm a) 1 b s codex_1094 := And.intro mobx_657 mobx_no
theorem mocodex_1095 (b s : Nat) : xall (fun _ a => xBm a) 2 b s codex_1095 := And.intro (mocodex_1093 b (2 * s)) (mocodex_1094 (b + s) (2 * s))
theorem mocodex_1096 (b s : Nat) : xall (fun _ a => xBm a) 1 b s codex_1096 := And.intro mobx_401 mobx_no
theorem mocodex_1097 (b s : Nat) : xall (fun _ a => xBm a) 1 b s codex_1097 := And.intro mobx_913 mobx_no
theorem mocodex_1098 (b s : Nat) : xall (fun _ a => xBm a) 2 b s codex_1098 := And.intro (mocodex_1096 b (2 * s)) (mocodex_1097 (b + s) (2 * s))
theorem mocodex_1099 (b s : Nat) : xall (fun _ a => xBm a) 3 b s codex_1099 := And.intro (mocodex_1095 b (2 * s)) (mocodex_1098 (b + s) (2 * s))
theorem mocodex_1100 (b s : Nat) : xall (fun _ a => xBm a) 4 b s codex_1100 := And.intro (mocodex_1092 b (2 * s)) (mocodex_1099 (b + s) (2 * s))
theorem mocodex_1101 (b s : Nat) : xall (fun _ a => xBm a) 1 b s codex_1101 := And.intro mobx_81 mobx_1105
theorem mocodex_1102 (b s : Nat) : xall (fun _ a => xBm a) 1 b s codex_1102 := And.intro mobx_593 mobx_no
theorem mocodex_1103 (b s : Nat) : xall (fun _ a => xBm a) 2 b s codex_1103 := And.intro (mocodex_1101 b (2 * s)) (mocodex_1102 (b + s) (2 * s))
theorem mocodex_1104 (b s : Nat) : xall (fun _ a => xBm a) 1 b s codex_1104 := And.intro mobx_337 mobx_no
theorem mocodex_1105 (b s : Nat) : xall (fun _ a => xBm a) 1 b s codex_1105 := And.intro mobx_849 mobx_no
theorem mocodex_1106 (b s : Nat) : xall (fun _ a => xBm a) 2 b s codex_1106 := And.intro (mocodex_1104 b (2 * s)) (mocodex_1105 (b + s) (2 * s))
theorem mocodex_1107 (b s : Nat) : xall (fun _ a => xBm a) 3 b s codex_1107 := And.intro (mocodex_1103 b (2 * s)) (mocodex_1106 (b + s) (2 * s))
theorem mocodex_1108 (b s : Nat) : xall (fun _ a => xBm a) 1 b s codex_1108 := And.intro mobx_209 mobx_no
theorem mocodex_1109 (b s : Nat) : xall (fun _ a => xBm a) 1 b s codex_1109 := And.intro mobx_721 mobx_no
theorem mocodex_1110 (b s : Nat) : xall (fun _ a => xBm a) 2 b s codex_1110 := And.intro (mocodex_1108 b (2 * s)) (mocodex_1109 (b + s) (2 * s))
theorem mocodex_1111 (b s : Nat) : xall (fun _ a => xBm a) 1 b s codex_1111 := And.intro mobx_465 mobx_no
theorem mocodex_1112 (b s : Nat) : xall (fun _ a => xBm a) 1 b s codex_1112 := And.intro mobx_977 mobx_no
theorem mocodex_1113 (b s : Nat) : xall (fun _ a => xBm a) 2 b s codex_1113 := And.intro (mocodex_1111 b (2 * s)) (mocodex_1112 (b + s) (2 * s))
theorem mocodex_1114 (b s : Nat) : xall (fun _ a => xBm a) 3 b s codex_1114 := And.intro (mocodex_1110 b (2 * s)) (mocodex_1113 (b + s) (2 * s))
theorem mocodex_1115 (b s : Nat) : xall (fun _ a => xBm a) 4 b s codex_1115 := And.intro (mocodex_1107 b (2 * s)) (mocodex_1114 (b + s) (2 * s))
theorem mocodex_1116 (b s : Nat) : xall (fun _ a => xBm a) 5 b s codex_1116 := And.intro (mocodex_1100 b (2 * s)) (mocodex_1115 (b + s) (2 * s))
theorem mocodex_1117 (b s : Nat) : xall (fun _ a => xBm a) 1 b s codex_1117 := And.intro mobx_49 mobx_1073
theorem mocodex_1118 (b s : Nat) : xall (fun _ a => xBm a) 1 b s codex_1118 := And.intro mobx_561 mobx_no
theorem mocodex_1119 (b s : Nat) : xall (fun _ a => xBm a) 2 b s codex_1119 := And.intro (mocodex_1117 b (2 * s)) (mocodex_1118 (b + s) (2 * s))
theorem mocodex_1120 (b s : Nat) : xall (fun _ a => xBm a) 1 b s codex_1120 := And.intro mobx_305 mobx_no
theorem mocodex_1121 (b s : Nat) : xall (fun _ a => xBm a) 1 b s codex_1121 := And.intro mobx_817 mobx_no
theorem mocodex_1122 (b s : Nat) : xall (fun _ a => xBm a) 2 b s codex_1122 := And.intro (mocodex_1120 b (2 * s)) (mocodex_1121 (b + s) (2 * s))
theorem mocodex_1123 (b s : Nat) : xall (fun _ a => xBm a) 3 b s codex_1123 := And.intro (mocodex_1119 b (2 * s)) (mocodex_1122 (b + s) (2 * s))
theorem mocodex_1124 (b s : Nat) : xall (fun _ a => xBm a) 1 b s codex_1124 := And.intro mobx_177 mobx_no
theorem mocodex_1125 (b s : Nat) : xall (fun _ a => xBm a) 1 b s codex_1125 := And.intro mobx_689 mobx_no
theorem mocodex_1126 (b s : Nat) : xall (fun _ a => xBm a) 2 b s codex_1126 := And.intro (mocodex_1124 b (2 * s)) (mocodex_1125 (b + s) (2 * s))
theorem mocodex_1127 (b s : Nat) : xall (fun _ a => xBm a) 1 b s codex_1127 := And.intro mobx_433 mobx_no
theorem mocodex_1128 (b s : Nat) : xall (fun _ a => xBm a) 1 b s codex_1128 := And.intro mobx_945 mobx_no
theorem mocodex_1129 (b s : Nat) : xall (fun _ a => xBm a) 2 b s codex_1129 := And.intro (mocodex_1127 b (2 * s)) (mocodex_1128 (b + s) (2 * s))
theorem mocodex_1130 (b s : Nat) : xall (fun _ a => xBm a) 3 b s codex_1130 := And.intro (mocodex_1126 b (2 * s)) (mocodex_1129 (b + s) (2 * s))
theorem mocodex_1131 (b s : Nat) : xall (fun _ a => xBm a) 4 b s codex_1131 := And.intro (mocodex_1123 b (2 * s)) (mocodex_1130 (b + s) (2 * s))
theorem mocodex_1132 (b s : Nat) : xall (fun _ a => xBm a) 1 b s codex_1132 := And.intro mobx_113 mobx_1137
theorem mocodex_1133 (b s : Nat) : xall (fun _ a => xBm a) 1 b s codex_1133 := And.intro mobx_625 mobx_no
theorem mocodex_1134 (b s : Nat) : xall (fun _ a => xBm a) 2 b s codex_1134 := And.intro (mocodex_1132 b (2 * s)) (mocodex_1133 (b + s) (2 * s))
theorem mocodex_1135 (b s : Nat) : xall (fun _ a => xBm a) 1 b s codex_1135 := And.intro mobx_369 mobx_no
theorem mocodex_1136 (b s : Nat) : xall (fun _ a => xBm a) 1 b s codex_1136 := And.intro mobx_881 mobx_no
theorem mocodex_1137 (b s : Nat) : xall (fun _ a => xBm a) 2 b s codex_1137 := And.intro (mocodex_1135 b (2 * s)) (mocodex_1136 (b + s) (2 * s))
theorem mocodex_1138 (b s : Nat) : xall (fun _ a => xBm a) 3 b s codex_1138 := And.intro (mocodex_1134 b (2 * s)) (mocodex_1137 (b + s) (2 * s))
theorem mocodex_1139 (b s : Nat) : xall (fun _ a => xBm a) 1 b s codex_1139 := And.intro mobx_241 mobx_no
theorem mocodex_1140 (b s : Nat) : xall (fun _ a => xBm a) 1 b s codex_1140 := And.intro mobx_753 mobx_no
theorem mocodex_1141 (b s : Nat) : xall (fun _ a => xBm a) 2 b s codex_1141 := And.intro (mocodex_1139 b (2 * s)) (mocodex_1140 (b + s) (2 * s))
theorem mocodex_1142 (b s : Nat) : xall (fun _ a => xBm a) 1 b s codex_1142 := And.intro mobx_497 mobx_no
theorem mocodex_1143 (b s : Nat) : xall (fun _ a => xBm a) 1 b s codex_1143 := And.intro mobx_1009 mobx_no
theorem mocodex_1144 (b s : Nat) : xall (fun _ a => xBm a) 2 b s codex_1144 := And.intro (mocodex_1142 b (2 * s)) (mocodex_1143 (b + s) (2 * s))
theorem mocodex_1145 (b s : Nat) : xall (fun _ a => xBm a) 3 b s codex_1145 := And.intro (mocodex_1141 b (2 * s)) (mocodex_1144 (b + s) (2 * s))
theorem mocodex_1146 (b s : Nat) : xall (fun _ a => xBm a) 4 b s codex_1146 := And.intro (mocodex_1138 b (2 * s)) (mocodex_1145 (b + s) (2 * s))
theorem mocodex_1147 (b s : Nat) : xall (fun _ a => xBm a) 5 b s codex_1147 := And.intro (mocodex_1131 b (2 * s)) (mocodex_1146 (b + s) (2 * s))
theorem mocodex_1148 (b s : Nat) : xall (fun _ a => xBm a) 6 b s codex_1148 := And.intro (mocodex_1116 b (2 * s)) (mocodex_1147 (b + s) (2 * s))
theorem mocodex_1149 (b s : Nat) : xall (fun _ a => xBm a) 7 b s codex_1149 := And.intro (mocodex_1085 b (2 * s)) (mocodex_1148 (b + s) (2 * s))
theorem mocodex_1150 (b s : Nat) : xall (fun _ a => xBm a) 1 b s codex_1150 := And.intro mobx_9 mobx_1033
theorem mocodex_1151 (b s : Nat) : xall (fun _ a => xBm a) 1 b s codex_1151 := And.intro mobx_521 mobx_no
theorem mocodex_1152 (b s : Nat) : xall (fun _ a => xBm a) 2 b s codex_1152 := And.intro (mocodex_1150 b (2 * s)) (mocodex_1151 (b + s) (2 * s))
theorem mocodex_1153 (b s : Nat) : xall (fun _ a => xBm a) 1 b s codex_1153 := And.intro mobx_265 mobx_no
theorem mocodex_1154 (b s : Nat) : xall (fun _ a => xBm a) 1 b s codex_1154 := And.intro mobx_777 mobx_no
theorem mocodex_1155 (b s : Nat) : xall (fun _ a => xBm a) 2 b s codex_1155 := And.intro (mocodex_1153 b (2 * s)) (mocodex_1154 (b + s) (2 * s))
theorem mocodex_1156 (b s : Nat) : xall (fun _ a => xBm a) 3 b s codex_1156 := And.intro (mocodex_1152 b (2 * s)) (mocodex_1155 (b + s) (2 * s))
theorem mocodex_1157 (b s : Nat) : xall (fun _ a => xBm a) 1 b s codex_1157 := And.intro mobx_137 mobx_1161
theorem mocodex_1158 (b s : Nat) : xall (fun _ a => xBm a) 1 b s codex_1158 := And.intro mobx_649 mobx_no
theorem mocodex_1159 (b s : Nat) : xall (fun _ a => xBm a) 2 b s codex_1159 := And.intro (mocodex_1157 b (2 * s)) (mocodex_1158 (b + s) (2 * s))
theorem mocodex_1160 (b s : Nat) : xall (fun _ a => xBm a) 1 b s codex_1160 := And.intro mobx_393 mobx_no
theorem mocodex_1161 (b s : Nat) : xall (fun _ a => xBm a) 1 b s codex_1161 := And.intro mobx_905 mobx_no
theorem mocodex_1162 (b s : Nat) : xall (fun _ a => xBm a) 2 b s codex_1162 := And.intro (mocodex_1160 b (2 * s)) (mocodex_1161 (b + s) (2 * s))
theorem mocodex_1163 (b s : Nat) : xall (fun _ a => xBm a) 3 b s codex_1163 := And.intro (mocodex_1159 b (2 * s)) (mocodex_1162 (b + s) (2 * s))
theorem mocodex_1164 (b s : Nat) : xall (fun _ a => xBm a) 4 b s codex_1164 := And.intro (mocodex_1156 b (2 * s)) (mocodex_1163 (b + s) (2 * s))
theorem mocodex_1165 (b s : Nat) : xall (fun _ a => xBm a) 1 b s codex_1165 := And.intro mobx_73 mobx_1097
theorem mocodex_1166 (b s : Nat) : xall (fun _ a => xBm a) 1 b s codex_1166 := And.intro mobx_585 mobx_no
theorem mocodex_1167 (b s : Nat) : xall (fun _ a => xBm a) 2 b s codex_1167 := And.intro (mocodex_1165 b (2 * s)) (mocodex_1166 (b + s) (2 * s))
theorem mocodex_1168 (b s : Nat) : xall (fun _ a => xBm a) 1 b s codex_1168 := And.intro mobx_329 mobx_no
theorem mocodex_1169 (b s : Nat) : xall (fun _ a => xBm a) 1 b s codex_1169 := And.intro mobx_841 mobx_no
theorem mocodex_1170 (b s : Nat) : xall (fun _ a => xBm a) 2 b s codex_1170 := And.intro (mocodex_1168 b (2 * s)) (mocodex_1169 (b + s) (2 * s))
theorem mocodex_1171 (b s : Nat) : xall (fun _ a => xBm a) 3 b s codex_1171 := And.intro (mocodex_1167 b (2 * s)) (mocodex_1170 (b + s) (2 * s))
theorem mocodex_1172 (b s : Nat) : xall (fun _ a => xBm a) 1 b s codex_1172 := And.intro mobx_201 mobx_no
theorem mocodex_1173 (b s : Nat) : xall (fun _ a => xBm a) 1 b s codex_1173 := And.intro mobx_713 mobx_no
theorem mocodex_1174 (b s : Nat) : xall (fun _ a => xBm a) 2 b s codex_1174 := And.intro (mocodex_1172 b (2 * s)) (mocodex_1173 (b + s) (2 * s))
theorem mocodex_1175 (b s : Nat) : xall (fun _ a => xBm a) 1 b s codex_1175 := And.intro mobx_457 mobx_no
theorem mocodex_1176 (b s : Nat) : xall (fun _ a => xBm a) 1 b s codex_1176 := And.intro mobx_969 mobx_no
theorem mocodex_1177 (b s : Nat) : xall (fun _ a => xBm a) 2 b s codex_1177 := And.intro (mocodex_1175 b (2 * s)) (mocodex_1176 (b + s) (2 * s))
theorem mocodex_1178 (b s : Nat) : xall (fun _ a => xBm a) 3 b s codex_1178 := And.intro (mocodex_1174 b (2 * s)) (mocodex_1177 (b + s) (2 * s))
theorem mocodex_1179 (b s : Nat) : xall (fun _ a => xBm a) 4 b s codex_1179 := And.intro (mocodex_1171 b (2 * s)) (mocodex_1178 (b + s) (2 * s))
theorem mocodex_1180 (b s : Nat) : xall (fun _ a => xBm a) 5 b s codex_1180 := And.intro (mocodex_1164 b (2 * s)) (mocodex_1179 (b + s) (2 * s))
theorem mocodex_1181 (b s : Nat) : xall (fun _ a => xBm a) 1 b s codex_1181 := And.intro mobx_41 mobx_1065
theorem mocodex_1182 (b s : Nat) : xall (fun _ a => xBm a) 1 b s codex_1182 := And.intro mobx_553 mobx_no
theorem mocodex_1183 (b s : Nat) : xall (fun _ a => xBm a) 2 b s codex_1183 := And.intro (mocodex_1181 b (2 * s)) (mocodex_1182 (b + s) (2 * s))
theorem mocodex_1184 (b s : Nat) : xall (fun _ a => xBm a) 1 b s codex_1184 := And.intro mobx_297 mobx_no
theorem mocodex_1185 (b s : Nat) : xall (fun _ a => xBm a) 1 b s codex_1185 := And.intro mobx_809 mobx_no
theorem mocodex_1186 (b s : Nat) : xall (fun _ a => xBm a) 2 b s codex_1186 := And.intro (mocodex_1184 b (2 * s)) (mocodex_1185 (b + s) (2 * s))
theorem mocodex_1187 (b s : Nat) : xall (fun _ a => xBm a) 3 b s codex_1187 := And.intro (mocodex_1183 b (2 * s)) (mocodex_1186 (b + s) (2 * s))
theorem mocodex_1188 (b s : Nat) : xall (fun _ a => xBm a) 1 b s codex_1188 := And.intro mobx_169 mobx_1193
theorem mocodex_1189 (b s : Nat) : xall (fun _ a => xBm a) 1 b s codex_1189 := And.intro mobx_681 mobx_no
theorem mocodex_1190 (b s : Nat) : xall (fun _ a => xBm a) 2 b s codex_1190 := And.intro (mocodex_1188 b (2 * s)) (mocodex_1189 (b + s) (2 * s))
theorem mocodex_1191 (b s : Nat) : xall (fun _ a => xBm a) 1 b s codex_1191 := And.intro mobx_425 mobx_no
theorem mocodex_1192 (b s : Nat) : xall (fun _ a => xBm a) 1 b s codex_1192 := And.intro mobx_937 mobx_no
theorem mocodex_1193 (b s : Nat) : xall (fun _ a => xBm a) 2 b s codex_1193 := And.intro (mocodex_1191 b (2 * s)) (mocodex_1192 (b + s) (2 * s))
theorem mocodex_1194 (b s : Nat) : xall (fun _ a => xBm a) 3 b s codex_1194 := And.intro (mocodex_1190 b (2 * s)) (mocodex_1193 (b + s) (2 * s))
theorem mocodex_1195 (b s : Nat) : xall (fun _ a => xBm a) 4 b s codex_1195 := And.intro (mocodex_1187 b (2 * s)) (mocodex_1194 (b + s) (2 * s))
theorem mocodex_1196 (b s : Nat) : xall (fun _ a => xBm a) 1 b s codex_1196 := And.intro mobx_105 mobx_1129
theorem mocodex_1197 (b s : Nat) : xall (fun _ a => xBm a) 1 b s codex_1197 := And.intro mobx_617 mobx_no
theorem mocodex_1198 (b s : Nat) : xall (fun _ a => xBm a) 2 b s codex_1198 := And.intro (mocodex_1196 b (2 * s)) (mocodex_1197 (b + s) (2 * s))
theorem mocodex_1199 (b s : Nat) : xall (fun _ a => xBm a) 1 b s codex_1199 := And.intro mobx_361 mobx_no
theorem mocodex_1200 (b s : Nat) : xall (fun _ a => xBm a) 1 b s codex_1200 := And.intro mobx_873 mobx_no
theorem mocodex_1201 (b s : Nat) : xall (fun _ a => xBm a) 2 b s codex_1201 := And.intro (mocodex_1199 b (2 * s)) (mocodex_1200 (b + s) (2 * s))
theorem mocodex_1202 (b s : Nat) : xall (fun _ a => xBm a) 3 b s codex_1202 := And.intro (mocodex_1198 b (2 * s)) (mocodex_1201 (b + s) (2 * s))
theorem mocodex_1203 (b s : Nat) : xall (fun _ a => xBm a) 1 b s codex_1203 := And.intro mobx_233 mobx_no
theorem mocodex_1204 (b s : Nat) : xall (fun _ a => xBm a) 1 b s codex_1204 := And.intro mobx_745 mobx_no
theorem mocodex_1205 (b s : Nat) : xall (fun _ a => xBm a) 2 b s codex_1205 := And.intro (mocodex_1203 b (2 * s)) (mocodex_1204 (b + s) (2 * s))
theorem mocodex_1206 (b s : Nat) : xall (fun _ a => xBm a) 1 b s codex_1206 := And.intro mobx_489 mobx_no
theorem mocodex_1207 (b s : Nat) : xall (fun _ a => xBm a) 1 b s codex_1207 := And.intro mobx_1001 mobx_no
theorem mocodex_1208 (b s : Nat) : xall (fun _ a => xBm a) 2 b s codex_1208 := And.intro (mocodex_1206 b (2 * s)) (mocodex_1207 (b + s) (2 * s))
theorem mocodex_1209 (b s : Nat) : xall (fun _ a => xBm a) 3 b s codex_1209 := And.intro (mocodex_1205 b (2 * s)) (mocodex_1208 (b + s) (2 * s))
theorem mocodex_1210 (b s : Nat) : xall (fun _ a => xBm a) 4 b s codex_1210 := And.intro (mocodex_1202 b (2 * s)) (mocodex_1209 (b + s) (2 * s))
theorem mocodex_1211 (b s : Nat) : xall (fun _ a => xBm a) 5 b s codex_1211 := And.intro (mocodex_1195 b (2 * s)) (mocodex_1210 (b + s) (2 * s))
theorem mocodex_1212 (b s : Nat) : xall (fun _ a => xBm a) 6 b s codex_1212 := And.intro (mocodex_1180 b (2 * s)) (mocodex_1211 (b + s) (2 * s))
theorem mocodex_1213 (b s : Nat) : xall (fun _ a => xBm a) 1 b s codex_1213 := And.intro mobx_25 mobx_1049
theorem mocodex_1214 (b s : Nat) : xall (fun _ a => xBm a) 1 b s codex_1214 := And.intro mobx_537 mobx_no
theorem mocodex_1215 (b s : Nat) : xall (fun _ a => xBm a) 2 b s codex_1215 := And.intro (mocodex_1213 b (2 * s)) (mocodex_1214 (b + s) (2 * s))
theorem mocodex_1216 (b s : Nat) : xall (fun _ a => xBm a) 1 b s codex_1216 := And.intro mobx_281 mobx_no
theorem mocodex_1217 (b s : Nat) : xall (fun _ a => xBm a) 1 b s codex_1217 := And.intro mobx_793 mobx_no
theorem mocodex_1218 (b s : Nat) : xall (fun _ a => xBm a) 2 b s codex_1218 := And.intro (mocodex_1216 b (2 * s)) (mocodex_1217 (b + s) (2 * s))
theorem mocodex_1219 (b s : Nat) : xall (fun _ a => xBm a) 3 b s codex_1219 := And.intro (mocodex_1215 b (2 * s)) (mocodex_1218 (b + s) (2 * s))
theorem mocodex_1220 (b s : Nat) : xall (fun _ a => xBm a) 1 b s codex_1220 := And.intro mobx_153 mobx_1177
theorem mocodex_1221 (b s : Nat) : xall (fun _ a => xBm a) 1 b s codex_1221 := And.intro mobx_665 mobx_no
theorem mocodex_1222 (b s : Nat) : xall (fun _ a => xBm a) 2 b s codex_1222 := And.intro (mocodex_1220 b (2 * s)) (mocodex_1221 (b + s) (2 * s))
theorem mocodex_1223 (b s : Nat) : xall (fun _ a => xBm a) 1 b s codex_1223 := And.intro mobx_409 mobx_no
theorem mocodex_1224 (b s : Nat) : xall (fun _ a => xBm a) 1 b s codex_1224 := And.intro mobx_921 mobx_no
theorem mocodex_1225 (b s : Nat) : xall (fun _ a => xBm a) 2 b s codex_1225 := And.intro (mocodex_1223 b (2 * s)) (mocodex_1224 (b + s) (2 * s))
theorem mocodex_1226 (b s : Nat) : xall (fun _ a => xBm a) 3 b s codex_1226 := And.intro (mocodex_1222 b (2 * s)) (mocodex_1225 (b + s) (2 * s))
theorem mocodex_1227 (b s : Nat) : xall (fun _ a => xBm a) 4 b s codex_1227 := And.intro (mocodex_1219 b (2 * s)) (mocodex_1226 (b + s) (2 * s))
theorem mocodex_1228 (b s : Nat) : xall (fun _ a => xBm a) 1 b s codex_1228 := And.intro mobx_89 mobx_1113
theorem mocodex_1229 (b s : Nat) : xall (fun _ a => xBm a) 1 b s codex_1229 := And.intro mobx_601 mobx_no
theorem mocodex_1230 (b s : Nat) : xall (fun _ a => xBm a) 2 b s codex_1230 := And.intro (mocodex_1228 b (2 * s)) (mocodex_1229 (b + s) (2 * s))
theorem mocodex_1231 (b s : Nat) : xall (fun _ a => xBm a) 1 b s codex_1231 := And.intro mobx_345 mobx_no
theorem mocodex_1232 (b s : Nat) : xall (fun _ a => xBm a) 1 b s codex_1232 := And.intro mobx_857 mobx_no
theorem mocodex_1233 (b s : Nat) : xall (fun _ a => xBm a) 2 b s codex_1233 := And.intro (mocodex_1231 b (2 * s)) (mocodex_1232 (b + s) (2 * s))
theorem mocodex_1234 (b s : Nat) : xall (fun _ a => xBm a) 3 b s codex_1234 := And.intro (mocodex_1230 b (2 * s)) (mocodex_1233 (b + s) (2 * s))
theorem mocodex_1235 (b s : Nat) : xall (fun _ a => xBm a) 1 b s codex_1235 := And.intro mobx_217 mobx_no
theorem mocodex_1236 (b s : Nat) : xall (fun _ a => xBm a) 1 b s codex_1236 := And.intro mobx_729 mobx_no
theorem mocodex_1237 (b s : Nat) : xall (fun _ a => xBm a) 2 b s codex_1237 := And.intro (mocodex_1235 b (2 * s)) (mocodex_1236 (b + s) (2 * s))
theorem mocodex_1238 (b s : Nat) : xall (fun _ a => xBm a) 1 b s codex_1238 := And.intro mobx_473 mobx_no
theorem mocodex_1239 (b s : Nat) : xall (fun _ a => xBm a) 1 b s codex_1239 := And.intro mobx_985 mobx_no
theorem mocodex_1240 (b s : Nat) : xall (fun _ a => xBm a) 2 b s codex_1240 := And.intro (mocodex_1238 b (2 * s)) (mocodex_1239 (b + s) (2 * s))
theorem mocodex_1241 (b s : Nat) : xall (fun _ a => xBm a) 3 b s codex_1241 := And.intro (mocodex_1237 b (2 * s)) (mocodex_1240 (b + s) (2 * s))
theorem mocodex_1242 (b s : Nat) : xall (fun _ a => xBm a) 4 b s codex_1242 := And.intro (mocodex_1234 b (2 * s)) (mocodex_1241 (b + s) (2 * s))
theorem mocodex_1243 (b s : Nat) : xall (fun _ a => xBm a) 5 b s codex_1243 := And.intro (mocodex_1227 b (2 * s)) (mocodex_1242 (b + s) (2 * s))
theorem mocodex_1244 (b s : Nat) : xall (fun _ a => xBm a) 1 b s codex_1244 := And.intro mobx_57 mobx_1081
theorem mocodex_1245 (b s : Nat) : xall (fun _ a => xBm a) 1 b s codex_1245 := And.intro mobx_569 mobx_no
theorem mocodex_1246 (b s : Nat) : xall (fun _ a => xBm a) 2 b s codex_1246 := And.intro (mocodex_1244 b (2 * s)) (mocodex_1245 (b + s) (2 * s))
theorem mocodex_1247 (b s : Nat) : xall (fun _ a => xBm a) 1 b s codex_1247 := And.intro mobx_313 mobx_no
theorem mocodex_1248 (b s : Nat) : xall (fun _ a => xBm a) 1 b s codex_1248 := And.intro mobx_825 mobx_no
theorem mocodex_1249 (b s : Nat) : xall (fun _ a => xBm a) 2 b s codex_1249 := And.intro (mocodex_1247 b (2 * s)) (mocodex_1248 (b + s) (2 * s))
theorem mocodex_1250 (b s : Nat) : xall (fun _ a => xBm a) 3 b s codex_1250 := And.intro (mocodex_1246 b (2 * s)) (mocodex_1249 (b + s) (2 * s))
theorem mocodex_1251 (b s : Nat) : xall (fun _ a => xBm a) 1 b s codex_1251 := And.intro mobx_185 mobx_no
theorem mocodex_1252 (b s : Nat) : xall (fun _ a => xBm a) 1 b s codex_1252 := And.intro mobx_697 mobx_no
theorem mocodex_1253 (b s : Nat) : xall (fun _ a => xBm a) 2 b s codex_1253 := And.intro (mocodex_1251 b (2 * s)) (mocodex_1252 (b + s) (2 * s))
theorem mocodex_1254 (b s : Nat) : xall (fun _ a => xBm a) 1 b s codex_1254 := And.intro mobx_441 mobx_no
theorem mocodex_1255 (b s : Nat) : xall (fun _ a => xBm a) 1 b s codex_1255 := And.intro mobx_953 mobx_no
theorem mocodex_1256 (b s : Nat) : xall (fun _ a => xBm a) 2 b s codex_1256 := And.intro (mocodex_1254 b (2 * s)) (mocodex_1255 (b + s) (2 * s))
theorem mocodex_1257 (b s : Nat) : xall (fun _ a => xBm a) 3 b s codex_1257 := And.intro (mocodex_1253 b (2 * s)) (mocodex_1256 (b + s) (2 * s))
theorem mocodex_1258 (b s : Nat) : xall (fun _ a => xBm a) 4 b s codex_1258 := And.intro (mocodex_1250 b (2 * s)) (mocodex_1257 (b + s) (2 * s))
theorem mocodex_1259 (b s : Nat) : xall (fun _ a => xBm a) 1 b s codex_1259 := And.intro mobx_121 mobx_1145
theorem mocodex_1260 (b s : Nat) : xall (fun _ a => xBm a) 1 b s codex_1260 := And.intro mobx_633 mobx_no
theorem mocodex_1261 (b s : Nat) : xall (fun _ a => xBm a) 2 b s codex_1261 := And.intro (mocodex_1259 b (2 * s)) (mocodex_1260 (b + s) (2 * s))
theorem mocodex_1262 (b s : Nat) : xall (fun _ a => xBm a) 1 b s codex_1262 := And.intro mobx_377 mobx_no
theorem mocodex_1263 (b s : Nat) : xall (fun _ a => xBm a) 1 b s codex_1263 := And.intro mobx_889 mobx_no
theorem mocodex_1264 (b s : Nat) : xall (fun _ a => xBm a) 2 b s codex_1264 := And.intro (mocodex_1262 b (2 * s)) (mocodex_1263 (b + s) (2 * s))
theorem mocodex_1265 (b s : Nat) : xall (fun _ a => xBm a) 3 b s codex_1265 := And.intro (mocodex_1261 b (2 * s)) (mocodex_1264 (b + s) (2 * s))
theorem mocodex_1266 (b s : Nat) : xall (fun _ a => xBm a) 1 b s codex_1266 := And.intro mobx_249 mobx_no
theorem mocodex_1267 (b s : Nat) : xall (fun _ a => xBm a) 1 b s codex_1267 := And.intro mobx_761 mobx_no
theorem mocodex_1268 (b s : Nat) : xall (fun _ a => xBm a) 2 b s codex_1268 := And.intro (mocodex_1266 b (2 * s)) (mocodex_1267 (b + s) (2 * s))
theorem mocodex_1269 (b s : Nat) : xall (fun _ a => xBm a) 1 b s codex_1269 := And.intro mobx_505 mobx_no
theorem mocodex_1270 (b s : Nat) : xall (fun _ a => xBm a) 1 b s codex_1270 := And.intro mobx_1017 mobx_no
theorem mocodex_1271 (b s : Nat) : xall (fun _ a => xBm a) 2 b s codex_1271 := And.intro (mocodex_1269 b (2 * s)) (mocodex_1270 (b + s) (2 * s))
theorem mocodex_1272 (b s : Nat) : xall (fun _ a => xBm a) 3 b s codex_1272 := And.intro (mocodex_1268 b (2 * s)) (mocodex_1271 (b + s) (2 * s))
theorem mocodex_1273 (b s : Nat) : xall (fun _ a => xBm a) 4 b s codex_1273 := And.intro (mocodex_1265 b (2 * s)) (mocodex_1272 (b + s) (2 * s))
theorem mocodex_1274 (b s : Nat) : xall (fun _ a => xBm a) 5 b s codex_1274 := And.intro (mocodex_1258 b (2 * s)) (mocodex_1273 (b + s) (2 * s))
theorem mocodex_1275 (b s : Nat) : xall (fun _ a => xBm a) 6 b s codex_1275 := And.intro (mocodex_1243 b (2 * s)) (mocodex_1274 (b + s) (2 * s))
theorem mocodex_1276 (b s : Nat) : xall (fun _ a => xBm a) 7 b s codex_1276 := And.intro (mocodex_1212 b (2 * s)) (mocodex_1275 (b + s) (2 * s))
theorem mocodex_1277 (b s : Nat) : xall (fun _ a => xBm a) 8 b s codex_1277 := And.intro (mocodex_1149 b (2 * s)) (mocodex_1276 (b + s) (2 * s))
theorem mocodex_1278 (b s : Nat) : xall (fun _ a => xBm a) 1 b s codex_1278 := And.intro mobx_5 mobx_1029
theorem mocodex_1279 (b s : Nat) : xall (fun _ a => xBm a) 1 b s codex_1279 := And.intro mobx_517 mobx_no
theorem mocodex_1280 (b s : Nat) : xall (fun _ a => xBm a) 2 b s codex_1280 := And.intro (mocodex_1278 b (2 * s)) (mocodex_1279 (b + s) (2 * s))
theorem mocodex_1281 (b s : Nat) : xall (fun _ a => xBm a) 1 b s codex_1281 := And.intro mobx_261 mobx_no
theorem mocodex_1282 (b s : Nat) : xall (fun _ a => xBm a) 1 b s codex_1282 := And.intro mobx_773 mobx_no
theorem mocodex_1283 (b s : Nat) : xall (fun _ a => xBm a) 2 b s codex_1283 := And.intro (mocodex_1281 b (2 * s)) (mocodex_1282 (b + s) (2 * s))
theorem mocodex_1284 (b s : Nat) : xall (fun _ a => xBm a) 3 b s codex_1284 := And.intro (mocodex_1280 b (2 * s)) (mocodex_1283 (b + s) (2 * s))
theorem mocodex_1285 (b s : Nat) : xall (fun _ a => xBm a) 1 b s codex_1285 := And.intro mobx_133 mobx_1157
theorem mocodex_1286 (b s : Nat) : xall (fun _ a => xBm a) 1 b s codex_1286 := And.intro mobx_645 mobx_no
theorem mocodex_1287 (b s : Nat) : xall (fun _ a => xBm a) 2 b s codex_1287 := And.intro (mocodex_1285 b (2 * s)) (mocodex_1286 (b + s) (2 * s))
theorem mocodex_1288 (b s : Nat) : xall (fun _ a => xBm a) 1 b s codex_1288 := And.intro mobx_389 mobx_no
theorem mocodex_1289 (b s : Nat) : xall (fun _ a => xBm a) 1 b s codex_1289 := And.intro mobx_901 mobx_no
theorem mocodex_1290 (b s : Nat) : xall (fun _ a => xBm a) 2 b s codex_1290 := And.intro (mocodex_1288 b (2 * s)) (mocodex_1289 (b + s) (2 * s))
theorem mocodex_1291 (b s : Nat) : xall (fun _ a => xBm a) 3 b s codex_1291 := And.intro (mocodex_1287 b (2 * s)) (mocodex_1290 (b + s) (2 * s))
theorem mocodex_1292 (b s : Nat) : xall (fun _ a => xBm a) 4 b s codex_1292 := And.intro (mocodex_1284 b (2 * s)) (mocodex_1291 (b + s) (2 * s))
theorem mocodex_1293 (b s : Nat) : xall (fun _ a => xBm a) 1 b s codex_1293 := And.intro mobx_69 mobx_1093
theorem mocodex_1294 (b s : Nat) : xall (fun _ a => xBm a) 1 b s codex_1294 := And.intro mobx_581 mobx_no
theorem mocodex_1295 (b s : Nat) : xall (fun _ a => xBm a) 2 b s codex_1295 := And.intro (mocodex_1293 b (2 * s)) (mocodex_1294 (b + s) (2 * s))
theorem mocodex_1296 (b s : Nat) : xall (fun _ a => xBm a) 1 b s codex_1296 := And.intro mobx_325 mobx_no
theorem mocodex_1297 (b s : Nat) : xall (fun _ a => xBm a) 1 b s codex_1297 := And.intro mobx_837 mobx_no
theorem mocodex_1298 (b s : Nat) : xall (fun _ a => xBm a) 2 b s codex_1298 := And.intro (mocodex_1296 b (2 * s)) (mocodex_1297 (b + s) (2 * s))
theorem mocodex_1299 (b s : Nat) : xall (fun _ a => xBm a) 3 b s codex_1299 := And.intro (mocodex_1295 b (2 * s)) (mocodex_1298 (b + s) (2 * s))
theorem mocodex_1300 (b s : Nat) : xall (fun _ a => xBm a) 1 b s codex_1300 := And.intro mobx_197 mobx_no
theorem mocodex_1301 (b s : Nat) : xall (fun _ a => xBm a) 1 b s codex_1301 := And.intro mobx_709 mobx_no
theorem mocodex_1302 (b s : Nat) : xall (fun _ a => xBm a) 2 b s codex_1302 := And.intro (mocodex_1300 b (2 * s)) (mocodex_1301 (b + s) (2 * s))
theorem mocodex_1303 (b s : Nat) : xall (fun _ a => xBm a) 1 b s codex_1303 := And.intro mobx_453 mobx_no
theorem mocodex_1304 (b s : Nat) : xall (fun _ a => xBm a) 1 b s codex_1304 := And.intro mobx_965 mobx_no
theorem mocodex_1305 (b s : Nat) : xall (fun _ a => xBm a) 2 b s codex_1305 := And.intro (mocodex_1303 b (2 * s)) (mocodex_1304 (b + s) (2 * s))
theorem mocodex_1306 (b s : Nat) : xall (fun _ a => xBm a) 3 b s codex_1306 := And.intro (mocodex_1302 b (2 * s)) (mocodex_1305 (b + s) (2 * s))
theorem mocodex_1307 (b s : Nat) : xall (fun _ a => xBm a) 4 b s codex_1307 := And.intro (mocodex_1299 b (2 * s)) (mocodex_1306 (b + s) (2 * s))
theorem mocodex_1308 (b s : Nat) : xall (fun _ a => xBm a) 5 b s codex_1308 := And.intro (mocodex_1292 b (2 * s)) (mocodex_1307 (b + s) (2 * s))
theorem mocodex_1309 (b s : Nat) : xall (fun _ a => xBm a) 1 b s codex_1309 := And.intro mobx_37 mobx_1061
theorem mocodex_1310 (b s : Nat) : xall (fun _ a => xBm a) 1 b s codex_1310 := And.intro mobx_549 mobx_no
theorem mocodex_1311 (b s : Nat) : xall (fun _ a => xBm a) 2 b s codex_1311 := And.intro (mocodex_1309 b (2 * s)) (mocodex_1310 (b + s) (2 * s))
theorem mocodex_1312 (b s : Nat) : xall (fun _ a => xBm a) 1 b s codex_1312 := And.intro mobx_293 mobx_no
theorem mocodex_1313 (b s : Nat) : xall (fun _ a => xBm a) 1 b s codex_1313 := And.intro mobx_805 mobx_no
theorem mocodex_1314 (b s : Nat) : xall (fun _ a => xBm a) 2 b s codex_1314 := And.intro (mocodex_1312 b (2 * s)) (mocodex_1313 (b + s) (2 * s))
theorem mocodex_1315 (b s : Nat) : xall (fun _ a => xBm a) 3 b s codex_1315 := And.intro (mocodex_1311 b (2 * s)) (mocodex_1314 (b + s) (2 * s))
theorem mocodex_1316 (b s : Nat) : xall (fun _ a => xBm a) 1 b s codex_1316 := And.intro mobx_165 mobx_1189
theorem mocodex_1317 (b s : Nat) : xall (fun _ a => xBm a) 1 b s codex_1317 := And.intro mobx_677 mobx_no
theorem mocodex_1318 (b s : Nat) : xall (fun _ a => xBm a) 2 b s codex_1318 := And.intro (mocodex_1316 b (2 * s)) (mocodex_1317 (b + s) (2 * s))
theorem mocodex_1319 (b s : Nat) : xall (fun _ a => xBm a) 1 b s codex_1319 := And.intro mobx_421 mobx_no
theorem mocodex_1320 (b s : Nat) : xall (fun _ a => xBm a) 1 b s codex_1320 := And.intro mobx_933 mobx_no
theorem mocodex_1321 (b s : Nat) : xall (fun _ a => xBm a) 2 b s codex_1321 := And.intro (mocodex_1319 b (2 * s)) (mocodex_1320 (b + s) (2 * s))
theorem mocodex_1322 (b s : Nat) : xall (fun _ a => xBm a) 3 b s codex_1322 := And.intro (mocodex_1318 b (2 * s)) (mocodex_1321 (b + s) (2 * s))
theorem mocodex_1323 (b s : Nat) : xall (fun _ a => xBm a) 4 b s codex_1323 := And.intro (mocodex_1315 b (2 * s)) (mocodex_1322 (b + s) (2 * s))
theorem mocodex_1324 (b s : Nat) : xall (fun _ a => xBm a) 1 b s codex_1324 := And.intro mobx_101 mobx_1125
theorem mocodex_1325 (b s : Nat) : xall (fun _ a => xBm a) 1 b s codex_1325 := And.intro mobx_613 mobx_no
theorem mocodex_1326 (b s : Nat) : xall (fun _ a => xBm a) 2 b s codex_1326 := And.intro (mocodex_1324 b (2 * s)) (mocodex_1325 (b + s) (2 * s))
theorem mocodex_1327 (b s : Nat) : xall (fun _ a => xBm a) 1 b s codex_1327 := And.intro mobx_357 mobx_no
theorem mocodex_1328 (b s : Nat) : xall (fun _ a => xBm a) 1 b s codex_1328 := And.intro mobx_869 mobx_no
theorem mocodex_1329 (b s : Nat) : xall (fun _ a => xBm a) 2 b s codex_1329 := And.intro (mocodex_1327 b (2 * s)) (mocodex_1328 (b + s) (2 * s))
theorem mocodex_1330 (b s : Nat) : xall (fun _ a => xBm a) 3 b s codex_1330 := And.intro (mocodex_1326 b (2 * s)) (mocodex_1329 (b + s) (2 * s))
theorem mocodex_1331 (b s : Nat) : xall (fun _ a => xBm a) 1 b s codex_1331 := And.intro mobx_229 mobx_no
theorem mocodex_1332 (b s : Nat) : xall (fun _ a => xBm a) 1 b s codex_1332 := And.intro mobx_741 mobx_no
theorem mocodex_1333 (b s : Nat) : xall (fun _ a => xBm a) 2 b s codex_1333 := And.intro (mocodex_1331 b (2 * s)) (mocodex_1332 (b + s) (2 * s))
theorem mocodex_1334 (b s : Nat) : xall (fun _ a => xBm a) 1 b s codex_1334 := And.intro mobx_485 mobx_no
theorem mocodex_1335 (b s : Nat) : xall (fun _ a => xBm a) 1 b s codex_1335 := And.intro mobx_997 mobx_no
theorem mocodex_1336 (b s : Nat) : xall (fun _ a => xBm a) 2 b s codex_1336 := And.intro (mocodex_1334 b (2 * s)) (mocodex_1335 (b + s) (2 * s))
theorem mocodex_1337 (b s : Nat) : xall (fun _ a => xBm a) 3 b s codex_1337 := And.intro (mocodex_1333 b (2 * s)) (mocodex_1336 (b + s) (2 * s))
theorem mocodex_1338 (b s : Nat) : xall (fun _ a => xBm a) 4 b s codex_1338 := And.intro (mocodex_1330 b (2 * s)) (mocodex_1337 (b + s) (2 * s))
theorem mocodex_1339 (b s : Nat) : xall (fun _ a => xBm a) 5 b s codex_1339 := And.intro (mocodex_1323 b (2 * s)) (mocodex_1338 (b + s) (2 * s))
theorem mocodex_1340 (b s : Nat) : xall (fun _ a => xBm a) 6 b s codex_1340 := And.intro (mocodex_1308 b (2 * s)) (mocodex_1339 (b + s) (2 * s))
theorem mocodex_1341 (b s : Nat) : xall (fun _ a => xBm a) 1 b s codex_1341 := And.intro mobx_21 mobx_1045
theorem mocodex_1342 (b s : Nat) : xall (fun _ a => xBm a) 1 b s codex_1342 := And.intro mobx_533 mobx_no
theorem mocodex_1343 (b s : Nat) : xall (fun _ a => xBm a) 2 b s codex_1343 := And.intro (mocodex_1341 b (2 * s)) (mocodex_1342 (b + s) (2 * s))
theorem mocodex_1344 (b s : Nat) : xall (fun _ a => xBm a) 1 b s codex_1344 := And.intro mobx_277 mobx_no
theorem mocodex_1345 (b s : Nat) : xall (fun _ a => xBm a) 1 b s codex_1345 := And.intro mobx_789 mobx_no
theorem mocodex_1346 (b s : Nat) : xall (fun _ a => xBm a) 2 b s codex_1346 := And.intro (mocodex_1344 b (2 * s)) (mocodex_1345 (b + s) (2 * s))
theorem mocodex_1347 (b s : Nat) : xall (fun _ a => xBm a) 3 b s codex_1347 := And.intro (mocodex_1343 b (2 * s)) (mocodex_1346 (b + s) (2 * s))
theorem mocodex_1348 (b s : Nat) : xall (fun _ a => xBm a) 1 b s codex_1348 := And.intro mobx_149 mobx_1173
theorem mocodex_1349 (b s : Nat) : xall (fun _ a => xBm a) 1 b s codex_1349 := And.intro mobx_661 mobx_no
theorem mocodex_1350 (b s : Nat) : xall (fun _ a => xBm a) 2 b s codex_1350 := And.intro (mocodex_1348 b (2 * s)) (mocodex_1349 (b + s) (2 * s))
theorem mocodex_1351 (b s : Nat) : xall (fun _ a => xBm a) 1 b s codex_1351 := And.intro mobx_405 mobx_no
theorem mocodex_1352 (b s : Nat) : xall (fun _ a => xBm a) 1 b s codex_1352 := And.intro mobx_917 mobx_no
theorem mocodex_1353 (b s : Nat) : xall (fun _ a => xBm a) 2 b s codex_1353 := And.intro (mocodex_1351 b (2 * s)) (mocodex_1352 (b + s) (2 * s))
theorem mocodex_1354 (b s : Nat) : xall (fun _ a => xBm a) 3 b s codex_1354 := And.intro (mocodex_1350 b (2 * s)) (mocodex_1353 (b + s) (2 * s))
theorem mocodex_1355 (b s : Nat) : xall (fun _ a => xBm a) 4 b s codex_1355 := And.intro (mocodex_1347 b (2 * s)) (mocodex_1354 (b + s) (2 * s))
theorem mocodex_1356 (b s : Nat) : xall (fun _ a => xBm a) 1 b s codex_1356 := And.intro mobx_85 mobx_1109
theorem mocodex_1357 (b s : Nat) : xall (fun _ a => xBm a) 1 b s codex_1357 := And.intro mobx_597 mobx_no
theorem mocodex_1358 (b s : Nat) : xall (fun _ a => xBm a) 2 b s codex_1358 := And.intro (mocodex_1356 b (2 * s)) (mocodex_1357 (b + s) (2 * s))
theorem mocodex_1359 (b s : Nat) : xall (fun _ a => xBm a) 1 b s codex_1359 := And.intro mobx_341 mobx_no
theorem mocodex_1360 (b s : Nat) : xall (fun _ a => xBm a) 1 b s codex_1360 := And.intro mobx_853 mobx_no
theorem mocodex_1361 (b s : Nat) : xall (fun _ a => xBm a) 2 b s codex_1361 := And.intro (mocodex_1359 b (2 * s)) (mocodex_1360 (b + s) (2 * s))
theorem mocodex_1362 (b s : Nat) : xall (fun _ a => xBm a) 3 b s codex_1362 := And.intro (mocodex_1358 b (2 * s)) (mocodex_1361 (b + s) (2 * s))
theorem mocodex_1363 (b s : Nat) : xall (fun _ a => xBm a) 1 b s codex_1363 := And.intro mobx_213 mobx_no
theorem mocodex_1364 (b s : Nat) : xall (fun _ a => xBm a) 1 b s codex_1364 := And.intro mobx_725 mobx_no
theorem mocodex_1365 (b s : Nat) : xall (fun _ a => xBm a) 2 b s codex_1365 := And.intro (mocodex_1363 b (2 * s)) (mocodex_1364 (b + s) (2 * s))
theorem mocodex_1366 (b s : Nat) : xall (fun _ a => xBm a) 1 b s codex_1366 := And.intro mobx_469 mobx_no
theorem mocodex_1367 (b s : Nat) : xall (fun _ a => xBm a) 1 b s codex_1367 := And.intro mobx_981 mobx_no
theorem mocodex_1368 (b s : Nat) : xall (fun _ a => xBm a) 2 b s codex_1368 := And.intro (mocodex_1366 b (2 * s)) (mocodex_1367 (b + s) (2 * s))
theorem mocodex_1369 (b s : Nat) : xall (fun _ a => xBm a) 3 b s codex_1369 := And.intro (mocodex_1365 b (2 * s)) (mocodex_1368 (b + s) (2 * s))
theorem mocodex_1370 (b s : Nat) : xall (fun _ a => xBm a) 4 b s codex_1370 := And.intro (mocodex_1362 b (2 * s)) (mocodex_1369 (b + s) (2 * s))
theorem mocodex_1371 (b s : Nat) : xall (fun _ a => xBm a) 5 b s codex_1371 := And.intro (mocodex_1355 b (2 * s)) (mocodex_1370 (b + s) (2 * s))
theorem mocodex_1372 (b s : Nat) : xall (fun _ a => xBm a) 1 b s codex_1372 := And.intro mobx_53 mobx_1077
theorem mocodex_1373 (b s : Nat) : xall (fun _ a => xBm a) 1 b s codex_1373 := And.intro mobx_565 mobx_no
theorem mocodex_1374 (b s : Nat) : xall (fun _ a => xBm a) 2 b s codex_1374 := And.intro (mocodex_1372 b (2 * s)) (mocodex_1373 (b + s) (2 * s))
theorem mocodex_1375 (b s : Nat) : xall (fun _ a => xBm a) 1 b s codex_1375 := And.intro mobx_309 mobx_no
theorem mocodex_1376 (b s : Nat) : xall (fun _ a => xBm a) 1 b s codex_1376 := And.intro mobx_821 mobx_no
theorem mocodex_1377 (b s : Nat) : xall (fun _ a => xBm a) 2 b s codex_1377 := And.intro (mocodex_1375 b (2 * s)) (mocodex_1376 (b + s) (2 * s))
theorem mocodex_1378 (b s : Nat) : xall (fun _ a => xBm a) 3 b s codex_1378 := And.intro (mocodex_1374 b (2 * s)) (mocodex_1377 (b + s) (2 * s))
theorem mocodex_1379 (b s : Nat) : xall (fun _ a => xBm a) 1 b s codex_1379 := And.intro mobx_181 mobx_no
theorem mocodex_1380 (b s : Nat) : xall (fun _ a => xBm a) 1 b s codex_1380 := And.intro mobx_693 mobx_no
theorem mocodex_1381 (b s : Nat) : xall (fun _ a => xBm a) 2 b s codex_1381 := And.intro (mocodex_1379 b (2 * s)) (mocodex_1380 (b + s) (2 * s))
theorem mocodex_1382 (b s : Nat) : xall (fun _ a => xBm a) 1 b s codex_1382 := And.intro mobx_437 mobx_no
theorem mocodex_1383 (b s : Nat) : xall (fun _ a => xBm a) 1 b s codex_1383 := And.intro mobx_949 mobx_no
theorem mocodex_1384 (b s : Nat) : xall (fun _ a => xBm a) 2 b s codex_1384 := And.intro (mocodex_1382 b (2 * s)) (mocodex_1383 (b + s) (2 * s))
theorem mocodex_1385 (b s : Nat) : xall (fun _ a => xBm a) 3 b s codex_1385 := And.intro (mocodex_1381 b (2 * s)) (mocodex_1384 (b + s) (2 * s))
theorem mocodex_1386 (b s : Nat) : xall (fun _ a => xBm a) 4 b s codex_1386 := And.intro (mocodex_1378 b (2 * s)) (mocodex_1385 (b + s) (2 * s))
theorem mocodex_1387 (b s : Nat) : xall (fun _ a => xBm a) 1 b s codex_1387 := And.intro mobx_117 mobx_1141
theorem mocodex_1388 (b s : Nat) : xall (fun _ a => xBm a) 1 b s codex_1388 := And.intro mobx_629 mobx_no
theorem mocodex_1389 (b s : Nat) : xall (fun _ a => xBm a) 2 b s codex_1389 := And.intro (mocodex_1387 b (2 * s)) (mocodex_1388 (b + s) (2 * s))
theorem mocodex_1390 (b s : Nat) : xall (fun _ a => xBm a) 1 b s codex_1390 := And.intro mobx_373 mobx_no
theorem mocodex_1391 (b s : Nat) : xall (fun _ a => xBm a) 1 b s codex_1391 := And.intro mobx_885 mobx_no
theorem mocodex_1392 (b s : Nat) : xall (fun _ a => xBm a) 2 b s codex_1392 := And.intro (mocodex_1390 b (2 * s)) (mocodex_1391 (b + s) (2 * s))
theorem mocodex_1393 (b s : Nat) : xall (fun _ a => xBm a) 3 b s codex_1393 := And.intro (mocodex_1389 b (2 * s)) (mocodex_1392 (b + s) (2 * s))
theorem mocodex_1394 (b s : Nat) : xall (fun _ a => xBm a) 1 b s codex_1394 := And.intro mobx_245 mobx_no
theorem mocodex_1395 (b s : Nat) : xall (fun _ a => xBm a) 1 b s codex_1395 := And.intro mobx_757 mobx_no
theorem mocodex_1396 (b s : Nat) : xall (fun _ a => xBm a) 2 b s codex_1396 := And.intro (mocodex_1394 b (2 * s)) (mocodex_1395 (b + s) (2 * s))
theorem mocodex_1397 (b s : Nat) : xall (fun _ a => xBm a) 1 b s codex_1397 := And.intro mobx_501 mobx_no
theorem mocodex_1398 (b s : Nat) : xall (fun _ a => xBm a) 1 b s codex_1398 := And.intro mobx_1013 mobx_no
theorem mocodex_1399 (b s : Nat) : xall (fun _ a => xBm a) 2 b s codex_1399 := And.intro (mocodex_1397 b (2 * s)) (mocodex_1398 (b + s) (2 * s))
theorem mocodex_1400 (b s : Nat) : xall (fun _ a => xBm a) 3 b s codex_1400 := And.intro (mocodex_1396 b (2 * s)) (mocodex_1399 (b + s) (2 * s))
theorem mocodex_1401 (b s : Nat) : xall (fun _ a => xBm a) 4 b s codex_1401 := And.intro (mocodex_1393 b (2 * s)) (mocodex_1400 (b + s) (2 * s))
theorem mocodex_1402 (b s : Nat) : xall (fun _ a => xBm a) 5 b s codex_1402 := And.intro (mocodex_1386 b (2 * s)) (mocodex_1401 (b + s) (2 * s))
theorem mocodex_1403 (b s : Nat) : xall (fun _ a => xBm a) 6 b s codex_1403 := And.intro (mocodex_1371 b (2 * s)) (mocodex_1402 (b + s) (2 * s))
theorem mocodex_1404 (b s : Nat) : xall (fun _ a => xBm a) 7 b s codex_1404 := And.intro (mocodex_1340 b (2 * s)) (mocodex_1403 (b + s) (2 * s))
theorem mocodex_1405 (b s : Nat) : xall (fun _ a => xBm a) 1 b s codex_1405 := And.intro mobx_13 mobx_1037
theorem mocodex_1406 (b s : Nat) : xall (fun _ a => xBm a) 1 b s codex_1406 := And.intro mobx_525 mobx_no
theorem mocodex_1407 (b s : Nat) : xall (fun _ a => xBm a) 2 b s codex_1407 := And.intro (mocodex_1405 b (2 * s)) (mocodex_1406 (b + s) (2 * s))
theorem mocodex_1408 (b s : Nat) : xall (fun _ a => xBm a) 1 b s codex_1408 := And.intro mobx_269 mobx_no
theorem mocodex_1409 (b s : Nat) : xall (fun _ a => xBm a) 1 b s codex_1409 := And.intro mobx_781 mobx_no
theorem mocodex_1410 (b s : Nat) : xall (fun _ a => xBm a) 2 b s codex_1410 := And.intro (mocodex_1408 b (2 * s)) (mocodex_1409 (b + s) (2 * s))
theorem mocodex_1411 (b s : Nat) : xall (fun _ a => xBm a) 3 b s codex_1411 := And.intro (mocodex_1407 b (2 * s)) (mocodex_1410 (b + s) (2 * s))
theorem mocodex_1412 (b s : Nat) : xall (fun _ a => xBm a) 1 b s codex_1412 := And.intro mobx_141 mobx_1165
theorem mocodex_1413 (b s : Nat) : xall (fun _ a => xBm a) 1 b s codex_1413 := And.intro mobx_653 mobx_no
theorem mocodex_1414 (b s : Nat) : xall (fun _ a => xBm a) 2 b s codex_1414 := And.intro (mocodex_1412 b (2 * s)) (mocodex_1413 (b + s) (2 * s))
theorem mocodex_1415 (b s : Nat) : xall (fun _ a => xBm a) 1 b s codex_1415 := And.intro mobx_397 mobx_no
theorem mocodex_1416 (b s : Nat) : xall (fun _ a => xBm a) 1 b s codex_1416 := And.intro mobx_909 mobx_no
theorem mocodex_1417 (b s : Nat) : xall (fun _ a => xBm a) 2 b s codex_1417 := And.intro (mocodex_1415 b (2 * s)) (mocodex_1416 (b + s) (2 * s))
theorem mocodex_1418 (b s : Nat) : xall (fun _ a => xBm a) 3 b s codex_1418 := And.intro (mocodex_1414 b (2 * s)) (mocodex_1417 (b + s) (2 * s))
theorem mocodex_1419 (b s : Nat) : xall (fun _ a => xBm a) 4 b s codex_1419 := And.intro (mocodex_1411 b (2 * s)) (mocodex_1418 (b + s) (2 * s))
theorem mocodex_1420 (b s : Nat) : xall (fun _ a => xBm a) 1 b s codex_1420 := And.intro mobx_77 mobx_1101
theorem mocodex_1421 (b s : Nat) : xall (fun _ a => xBm a) 1 b s codex_1421 := And.intro mobx_589 mobx_no
theorem mocodex_1422 (b s : Nat) : xall (fun _ a => xBm a) 2 b s codex_1422 := And.intro (mocodex_1420 b (2 * s)) (mocodex_1421 (b + s) (2 * s))
theorem mocodex_1423 (b s : Nat) : xall (fun _ a => xBm a) 1 b s codex_1423 := And.intro mobx_333 mobx_no
theorem mocodex_1424 (b s : Nat) : xall (fun _ a => xBm a) 1 b s codex_1424 := And.intro mobx_845 mobx_no
theorem mocodex_1425 (b s : Nat) : xall (fun _ a => xBm a) 2 b s codex_1425 := And.intro (mocodex_1423 b (2 * s)) (mocodex_1424 (b + s) (2 * s))
theorem mocodex_1426 (b s : Nat) : xall (fun _ a => xBm a) 3 b s codex_1426 := And.intro (mocodex_1422 b (2 * s)) (mocodex_1425 (b + s) (2 * s))
theorem mocodex_1427 (b s : Nat) : xall (fun _ a => xBm a) 1 b s codex_1427 := And.intro mobx_205 mobx_no
theorem mocodex_1428 (b s : Nat) : xall (fun _ a => xBm a) 1 b s codex_1428 := And.intro mobx_717 mobx_no
theorem mocodex_1429 (b s : Nat) : xall (fun _ a => xBm a) 2 b s codex_1429 := And.intro (mocodex_1427 b (2 * s)) (mocodex_1428 (b + s) (2 * s))
theorem mocodex_1430 (b s : Nat) : xall (fun _ a => xBm a) 1 b s codex_1430 := And.intro mobx_461 mobx_no
theorem mocodex_1431 (b s : Nat) : xall (fun _ a => xBm a) 1 b s codex_1431 := And.intro mobx_973 mobx_no
theorem mocodex_1432 (b s : Nat) : xall (fun _ a => xBm a) 2 b s codex_1432 := And.intro (mocodex_1430 b (2 * s)) (mocodex_1431 (b + s) (2 * s))
theorem mocodex_1433 (b s : Nat) : xall (fun _ a => xBm a) 3 b s codex_1433 := And.intro (mocodex_1429 b (2 * s)) (mocodex_1432 (b + s) (2 * s))
theorem mocodex_1434 (b s : Nat) : xall (fun _ a => xBm a) 4 b s codex_1434 := And.intro (mocodex_1426 b (2 * s)) (mocodex_1433 (b + s) (2 * s))
theorem mocodex_1435 (b s : Nat) : xall (fun _ a => xBm a) 5 b s codex_1435 := And.intro (mocodex_1419 b (2 * s)) (mocodex_1434 (b + s) (2 * s))
theorem mocodex_1436 (b s : Nat) : xall (fun _ a => xBm a) 1 b s codex_1436 := And.intro mobx_45 mobx_1069
theorem mocodex_1437 (b s : Nat) : xall (fun _ a => xBm a) 1 b s codex_1437 := And.intro mobx_557 mobx_no
theorem mocodex_1438 (b s : Nat) : xall (fun _ a => xBm a) 2 b s codex_1438 := And.intro (mocodex_1436 b (2 * s)) (mocodex_1437 (b + s) (2 * s))
theorem mocodex_1439 (b s : Nat) : xall (fun _ a => xBm a) 1 b s codex_1439 := And.intro mobx_301 mobx_no
theorem mocodex_1440 (b s : Nat) : xall (fun _ a => xBm a) 1 b s codex_1440 := And.intro mobx_813 mobx_no
theorem mocodex_1441 (b s : Nat) : xall (fun _ a => xBm a) 2 b s codex_1441 := And.intro (mocodex_1439 b (2 * s)) (mocodex_1440 (b + s) (2 * s))
theorem mocodex_1442 (b s : Nat) : xall (fun _ a => xBm a) 3 b s codex_1442 := And.intro (mocodex_1438 b (2 * s)) (mocodex_1441 (b + s) (2 * s))
theorem mocodex_1443 (b s : Nat) : xall (fun _ a => xBm a) 1 b s codex_1443 := And.intro mobx_173 mobx_no
theorem mocodex_1444 (b s : Nat) : xall (fun _ a => xBm a) 1 b s codex_1444 := And.intro mobx_685 mobx_no
theorem mocodex_1445 (b s : Nat) : xall (fun _ a => xBm a) 2 b s codex_1445 := And.intro (mocodex_1443 b (2 * s)) (mocodex_1444 (b + s) (2 * s))
theorem mocodex_1446 (b s : Nat) : xall (fun _ a => xBm a) 1 b s codex_1446 := And.intro mobx_429 mobx_no
theorem mocodex_1447 (b s : Nat) : xall (fun _ a => xBm a) 1 b s codex_1447 := And.intro mobx_941 mobx_no
theorem mocodex_1448 (b s : Nat) : xall (fun _ a => xBm a) 2 b s codex_1448 := And.intro (mocodex_1446 b (2 * s)) (mocodex_1447 (b + s) (2 * s))
theorem mocodex_1449 (b s : Nat) : xall (fun _ a => xBm a) 3 b s codex_1449 := And.intro (mocodex_1445 b (2 * s)) (mocodex_1448 (b + s) (2 * s))
theorem mocodex_1450 (b s : Nat) : xall (fun _ a => xBm a) 4 b s codex_1450 := And.intro (mocodex_1442 b (2 * s)) (mocodex_1449 (b + s) (2 * s))
theorem mocodex_1451 (b s : Nat) : xall (fun _ a => xBm a) 1 b s codex_1451 := And.intro mobx_109 mobx_1133
theorem mocodex_1452 (b s : Nat) : xall (fun _ a => xBm a) 1 b s codex_1452 := And.intro mobx_621 mobx_no
theorem mocodex_1453 (b s : Nat) : xall (fun _ a => xBm a) 2 b s codex_1453 := And.intro (mocodex_1451 b (2 * s)) (mocodex_1452 (b + s) (2 * s))
theorem mocodex_1454 (b s : Nat) : xall (fun _ a => xBm a) 1 b s codex_1454 := And.intro mobx_365 mobx_no
theorem mocodex_1455 (b s : Nat) : xall (fun _ a => xBm a) 1 b s codex_1455 := And.intro mobx_877 mobx_no
theorem mocodex_1456 (b s : Nat) : xall (fun _ a => xBm a) 2 b s codex_1456 := And.intro (mocodex_1454 b (2 * s)) (mocodex_1455 (b + s) (2 * s))
theorem mocodex_1457 (b s : Nat) : xall (fun _ a => xBm a) 3 b s codex_1457 := And.intro (mocodex_1453 b (2 * s)) (mocodex_1456 (b + s) (2 * s))
theorem mocodex_1458 (b s : Nat) : xall (fun _ a => xBm a) 1 b s codex_1458 := And.intro mobx_237 mobx_no
theorem mocodex_1459 (b s : Nat) : xall (fun _ a => xBm a) 1 b s codex_1459 := And.intro mobx_749 mobx_no
theorem mocodex_1460 (b s : Nat) : xall (fun _ a => xBm a) 2 b s codex_1460 := And.intro (mocodex_1458 b (2 * s)) (mocodex_1459 (b + s) (2 * s))
theorem mocodex_1461 (b s : Nat) : xall (fun _ a => xBm a) 1 b s codex_1461 := And.intro mobx_493 mobx_no
theorem mocodex_1462 (b s : Nat) : xall (fun _ a => xBm a) 1 b s codex_1462 := And.intro mobx_1005 mobx_no
theorem mocodex_1463 (b s : Nat) : xall (fun _ a => xBm a) 2 b s codex_1463 := And.intro (mocodex_1461 b (2 * s)) (mocodex_1462 (b + s) (2 * s))
theorem mocodex_1464 (b s : Nat) : xall (fun _ a => xBm a) 3 b s codex_1464 := And.intro (mocodex_1460 b (2 * s)) (mocodex_1463 (b + s) (2 * s))
theorem mocodex_1465 (b s : Nat) : xall (fun _ a => xBm a) 4 b s codex_1465 := And.intro (mocodex_1457 b (2 * s)) (mocodex_1464 (b + s) (2 * s))
theorem mocodex_1466 (b s : Nat) : xall (fun _ a => xBm a) 5 b s codex_1466 := And.intro (mocodex_1450 b (2 * s)) (mocodex_1465 (b + s) (2 * s))
theorem mocodex_1467 (b s : Nat) : xall (fun _ a => xBm a) 6 b s codex_1467 := And.intro (mocodex_1435 b (2 * s)) (mocodex_1466 (b + s) (2 * s))
theorem mocodex_1468 (b s : Nat) : xall (fun _ a => xBm a) 1 b s codex_1468 := And.intro mobx_29 mobx_1053
theorem mocodex_1469 (b s : Nat) : xall (fun _ a => xBm a) 1 b s codex_1469 := And.intro mobx_541 mobx_no
theorem mocodex_1470 (b s : Nat) : xall (fun _ a => xBm a) 2 b s codex_1470 := And.intro (mocodex_1468 b (2 * s)) (mocodex_1469 (b + s) (2 * s))
theorem mocodex_1471 (b s : Nat) : xall (fun _ a => xBm a) 1 b s codex_1471 := And.intro mobx_285 mobx_no
theorem mocodex_1472 (b s : Nat) : xall (fun _ a => xBm a) 1 b s codex_1472 := And.intro mobx_797 mobx_no
theorem mocodex_1473 (b s : Nat) : xall (fun _ a => xBm a) 2 b s codex_1473 := And.intro (mocodex_1471 b (2 * s)) (mocodex_1472 (b + s) (2 * s))
theorem mocodex_1474 (b s : Nat) : xall (fun _ a => xBm a) 3 b s codex_1474 := And.intro (mocodex_1470 b (2 * s)) (mocodex_1473 (b + s) (2 * s))
theorem mocodex_1475 (b s : Nat) : xall (fun _ a => xBm a) 1 b s codex_1475 := And.intro mobx_157 mobx_1181
theorem mocodex_1476 (b s : Nat) : xall (fun _ a => xBm a) 1 b s codex_1476 := And.intro mobx_669 mobx_no
theorem mocodex_1477 (b s : Nat) : xall (fun _ a => xBm a) 2 b s codex_1477 := And.intro (mocodex_1475 b (2 * s)) (mocodex_1476 (b + s) (2 * s))
theorem mocodex_1478 (b s : Nat) : xall (fun _ a => xBm a) 1 b s codex_1478 := And.intro mobx_413 mobx_no
theorem mocodex_1479 (b s : Nat) : xall (fun _ a => xBm a) 1 b s codex_1479 := And.intro mobx_925 mobx_no
theorem mocodex_1480 (b s : Nat) : xall (fun _ a => xBm a) 2 b s codex_1480 := And.intro (mocodex_1478 b (2 * s)) (mocodex_1479 (b + s) (2 * s))
theorem mocodex_1481 (b s : Nat) : xall (fun _ a => xBm a) 3 b s codex_1481 := And.intro (mocodex_1477 b (2 * s)) (mocodex_1480 (b + s) (2 * s))
theorem mocodex_1482 (b s : Nat) : xall (fun _ a => xBm a) 4 b s codex_1482 := And.intro (mocodex_1474 b (2 * s)) (mocodex_1481 (b + s) (2 * s))
theorem mocodex_1483 (b s : Nat) : xall (fun _ a => xBm a) 1 b s codex_1483 := And.intro mobx_93 mobx_1117
theorem mocodex_1484 (b s : Nat) : xall (fun _ a => xBm a) 1 b s codex_1484 := And.intro mobx_605 mobx_no
theorem mocodex_1485 (b s : Nat) : xall (fun _ a => xBm a) 2 b s codex_1485 := And.intro (mocodex_1483 b (2 * s)) (mocodex_1484 (b + s) (2 * s))
theorem mocodex_1486 (b s : Nat) : xall (fun _ a => xBm a) 1 b s codex_1486 := And.intro mobx_349 mobx_no
theorem mocodex_1487 (b s : Nat) : xall (fun _ a => xBm a) 1 b s codex_1487 := And.intro mobx_861 mobx_no
theorem mocodex_1488 (b s : Nat) : xall (fun _ a => xBm a) 2 b s codex_1488 := And.intro (mocodex_1486 b (2 * s)) (mocodex_1487 (b + s) (2 * s))
theorem mocodex_1489 (b s : Nat) : xall (fun _ a => xBm a) 3 b s codex_1489 := And.intro (mocodex_1485 b (2 * s)) (mocodex_1488 (b + s) (2 * s))
theorem mocodex_1490 (b s : Nat) : xall (fun _ a => xBm a) 1 b s codex_1490 := And.intro mobx_221 mobx_no
theorem mocodex_1491 (b s : Nat) : xall (fun _ a => xBm a) 1 b s codex_1491 := And.intro mobx_733 mobx_no
theorem mocodex_1492 (b s : Nat) : xall (fun _ a => xBm a) 2 b s codex_1492 := And.intro (mocodex_1490 b (2 * s)) (mocodex_1491 (b + s) (2 * s))
theorem mocodex_1493 (b s : Nat) : xall (fun _ a => xBm a) 1 b s codex_1493 := And.intro mobx_477 mobx_no
theorem mocodex_1494 (b s : Nat) : xall (fun _ a => xBm a) 1 b s codex_1494 := And.intro mobx_989 mobx_no
theorem mocodex_1495 (b s : Nat) : xall (fun _ a => xBm a) 2 b s codex_1495 := And.intro (mocodex_1493 b (2 * s)) (mocodex_1494 (b + s) (2 * s))
theorem mocodex_1496 (b s : Nat) : xall (fun _ a => xBm a) 3 b s codex_1496 := And.intro (mocodex_1492 b (2 * s)) (mocodex_1495 (b + s) (2 * s))
theorem mocodex_1497 (b s : Nat) : xall (fun _ a => xBm a) 4 b s codex_1497 := And.intro (mocodex_1489 b (2 * s)) (mocodex_1496 (b + s) (2 * s))
theorem mocodex_1498 (b s : Nat) : xall (fun _ a => xBm a) 5 b s codex_1498 := And.intro (mocodex_1482 b (2 * s)) (mocodex_1497 (b + s) (2 * s))
theorem mocodex_1499 (b s : Nat) : xall (fun _ a => xBm a) 1 b s codex_1499 := And.intro mobx_61 mobx_1085
theorem mocodex_1500 (b s : Nat) : xall (fun _ a => xBm a) 1 b s codex_1500 := And.intro mobx_573 mobx_no
theorem mocodex_1501 (b s : Nat) : xall (fun _ a => xBm a) 2 b s codex_1501 := And.intro (mocodex_1499 b (2 * s)) (mocodex_1500 (b + s) (2 * s))
theorem mocodex_1502 (b s : Nat) : xall (fun _ a => xBm a) 1 b s codex_1502 := And.intro mobx_317 mobx_no
theorem mocodex_1503 (b s : Nat) : xall (fun _ a => xBm a) 1 b s codex_1503 := And.intro mobx_829 mobx_no
theorem mocodex_1504 (b s : Nat) : xall (fun _ a => xBm a) 2 b s codex_1504 := And.intro (mocodex_1502 b (2 * s)) (mocodex_1503 (b + s) (2 * s))
theorem mocodex_1505 (b s : Nat) : xall (fun _ a => xBm a) 3 b s codex_1505 := And.intro (mocodex_1501 b (2 * s)) (mocodex_1504 (b + s) (2 * s))
theorem mocodex_1506 (b s : Nat) : xall (fun _ a => xBm a) 1 b s codex_1506 := And.intro mobx_189 mobx_no
theorem mocodex_1507 (b s : Nat) : xall (fun _ a => xBm a) 1 b s codex_1507 := And.intro mobx_701 mobx_no
theorem mocodex_1508 (b s : Nat) : xall (fun _ a => xBm a) 2 b s codex_1508 := And.intro (mocodex_1506 b (2 * s)) (mocodex_1507 (b + s) (2 * s))
theorem mocodex_1509 (b s : Nat) : xall (fun _ a => xBm a) 1 b s codex_1509 := And.intro mobx_445 mobx_no
theorem mocodex_1510 (b s : Nat) : xall (fun _ a => xBm a) 1 b s codex_1510 := And.intro mobx_957 mobx_no
theorem mocodex_1511 (b s : Nat) : xall (fun _ a => xBm a) 2 b s codex_1511 := And.intro (mocodex_1509 b (2 * s)) (mocodex_1510 (b + s) (2 * s))
theorem mocodex_1512 (b s : Nat) : xall (fun _ a => xBm a) 3 b s codex_1512 := And.intro (mocodex_1508 b (2 * s)) (mocodex_1511 (b + s) (2 * s))
theorem mocodex_1513 (b s : Nat) : xall (fun _ a => xBm a) 4 b s codex_1513 := And.intro (mocodex_1505 b (2 * s)) (mocodex_1512 (b + s) (2 * s))
theorem mocodex_1514 (b s : Nat) : xall (fun _ a => xBm a) 1 b s codex_1514 := And.intro mobx_125 mobx_1149
theorem mocodex_1515 (b s : Nat) : xall (fun _ a => xBm a) 1 b s codex_1515 := And.intro mobx_637 mobx_no
theorem mocodex_1516 (b s : Nat) : xall (fun _ a => xBm a) 2 b s codex_1516 := And.intro (mocodex_1514 b (2 * s)) (mocodex_1515 (b + s) (2 * s))
theorem mocodex_1517 (b s : Nat) : xall (fun _ a => xBm a) 1 b s codex_1517 := And.intro mobx_381 mobx_no
theorem mocodex_1518 (b s : Nat) : xall (fun _ a => xBm a) 1 b s codex_1518 := And.intro mobx_893 mobx_no
theorem mocodex_1519 (b s : Nat) : xall (fun _ a => xBm a) 2 b s codex_1519 := And.intro (mocodex_1517 b (2 * s)) (mocodex_1518 (b + s) (2 * s))
theorem mocodex_1520 (b s : Nat) : xall (fun _ a => xBm a) 3 b s codex_1520 := And.intro (mocodex_1516 b (2 * s)) (mocodex_1519 (b + s) (2 * s))
theorem mocodex_1521 (b s : Nat) : xall (fun _ a => xBm a) 1 b s codex_1521 := And.intro mobx_253 mobx_no
theorem mocodex_1522 (b s : Nat) : xall (fun _ a => xBm a) 1 b s codex_1522 := And.intro mobx_765 mobx_no
theorem mocodex_1523 (b s : Nat) : xall (fun _ a => xBm a) 2 b s codex_1523 := And.intro (mocodex_1521 b (2 * s)) (mocodex_1522 (b + s) (2 * s))
theorem mocodex_1524 (b s : Nat) : xall (fun _ a => xBm a) 1 b s codex_1524 := And.intro mobx_509 mobx_no
theorem mocodex_1525 (b s : Nat) : xall (fun _ a => xBm a) 1 b s codex_1525 := And.intro mobx_1021 mobx_no
theorem mocodex_1526 (b s : Nat) : xall (fun _ a => xBm a) 2 b s codex_1526 := And.intro (mocodex_1524 b (2 * s)) (mocodex_1525 (b + s) (2 * s))
theorem mocodex_1527 (b s : Nat) : xall (fun _ a => xBm a) 3 b s codex_1527 := And.intro (mocodex_1523 b (2 * s)) (mocodex_1526 (b + s) (2 * s))
theorem mocodex_1528 (b s : Nat) : xall (fun _ a => xBm a) 4 b s codex_1528 := And.intro (mocodex_1520 b (2 * s)) (mocodex_1527 (b + s) (2 * s))
theorem mocodex_1529 (b s : Nat) : xall (fun _ a => xBm a) 5 b s codex_1529 := And.intro (mocodex_1513 b (2 * s)) (mocodex_1528 (b + s) (2 * s))
theorem mocodex_1530 (b s : Nat) : xall (fun _ a => xBm a) 6 b s codex_1530 := And.intro (mocodex_1498 b (2 * s)) (mocodex_1529 (b + s) (2 * s))
theorem mocodex_1531 (b s : Nat) : xall (fun _ a => xBm a) 7 b s codex_1531 := And.intro (mocodex_1467 b (2 * s)) (mocodex_1530 (b + s) (2 * s))
theorem mocodex_1532 (b s : Nat) : xall (fun _ a => xBm a) 8 b s codex_1532 := And.intro (mocodex_1404 b (2 * s)) (mocodex_1531 (b + s) (2 * s))
theorem mocodex_1533 (b s : Nat) : xall (fun _ a => xBm a) 9 b s codex_1533 := And.intro (mocodex_1277 b (2 * s)) (mocodex_1532 (b + s) (2 * s))
theorem mocodex_1534 (b s : Nat) : xall (fun _ a => xBm a) 1 b s codex_1534 := And.intro mobx_3 mobx_1027
theorem mocodex_1535 (b s : Nat) : xall (fun _ a => xBm a) 1 b s codex_1535 := And.intro mobx_515 mobx_no
theorem mocodex_1536 (b s : Nat) : xall (fun _ a => xBm a) 2 b s codex_1536 := And.intro (mocodex_1534 b (2 * s)) (mocodex_1535 (b + s) (2 * s))
theorem mocodex_1537 (b s : Nat) : xall (fun _ a => xBm a) 1 b s codex_1537 := And.intro mobx_259 mobx_no
theorem mocodex_1538 (b s : Nat) : xall (fun _ a => xBm a) 1 b s codex_1538 := And.intro mobx_771 mobx_no
theorem mocodex_1539 (b s : Nat) : xall (fun _ a => xBm a) 2 b s codex_1539 := And.intro (mocodex_1537 b (2 * s)) (mocodex_1538 (b + s) (2 * s))
theorem mocodex_1540 (b s : Nat) : xall (fun _ a => xBm a) 3 b s codex_1540 := And.intro (mocodex_1536 b (2 * s)) (mocodex_1539 (b + s) (2 * s))
theorem mocodex_1541 (b s : Nat) : xall (fun _ a => xBm a) 1 b s codex_1541 := And.intro mobx_131 mobx_1155
theorem mocodex_1542 (b s : Nat) : xall (fun _ a => xBm a) 1 b s codex_1542 := And.intro mobx_643 mobx_no
theorem mocodex_1543 (b s : Nat) : xall (fun _ a => xBm a) 2 b s codex_1543 := And.intro (mocodex_1541 b (2 * s)) (mocodex_1542 (b + s) (2 * s))
theorem mocodex_1544 (b s : Nat) : xall (fun _ a => xBm a) 1 b s codex_1544 := And.intro mobx_387 mobx_no
theorem mocodex_1545 (b s : Nat) : xall (fun _ a => xBm a) 1 b s codex_1545 := And.intro mobx_899 mobx_no
theorem mocodex_1546 (b s : Nat) : xall (fun _ a => xBm a) 2 b s codex_1546 := And.intro (mocodex_1544 b (2 * s)) (mocodex_1545 (b + s) (2 * s))
theorem mocodex_1547 (b s : Nat) : xall (fun _ a => xBm a) 3 b s codex_1547 := And.intro (mocodex_1543 b (2 * s)) (mocodex_1546 (b + s) (2 * s))
theorem mocodex_1548 (b s : Nat) : xall (fun _ a => xBm a) 4 b s codex_1548 := And.intro (mocodex_1540 b (2 * s)) (mocodex_1547 (b + s) (2 * s))
theorem mocodex_1549 (b s : Nat) : xall (fun _ a => xBm a) 1 b s codex_1549 := And.intro mobx_67 mobx_1091
theorem mocodex_1550 (b s : Nat) : xall (fun _ a => xBm a) 1 b s codex_1550 := And.intro mobx_579 mobx_no
theorem mocodex_1551 (b s : Nat) : xall (fun _ a => xBm a) 2 b s codex_1551 := And.intro (mocodex_1549 b (2 * s)) (mocodex_1550 (b + s) (2 * s))
theorem mocodex_1552 (b s : Nat) : xall (fun _ a => xBm a) 1 b s codex_1552 := And.intro mobx_323 mobx_no
theorem mocodex_1553 (b s : Nat) : xall (fun _ a => xBm a) 1 b s codex_1553 := And.intro mobx_835 mobx_no
theorem mocodex_1554 (b s : Nat) : xall (fun _ a => xBm a) 2 b s codex_1554 := And.intro (mocodex_1552 b (2 * s)) (mocodex_1553 (b + s) (2 * s))
theorem mocodex_1555 (b s : Nat) : xall (fun _ a => xBm a) 3 b s codex_1555 := And.intro (mocodex_1551 b (2 * s)) (mocodex_1554 (b + s) (2 * s))
theorem mocodex_1556 (b s : Nat) : xall (fun _ a => xBm a) 1 b s codex_1556 := And.intro mobx_195 mobx_no
theorem mocodex_1557 (b s : Nat) : xall (fun _ a => xBm a) 1 b s codex_1557 := And.intro mobx_707 mobx_no
theorem mocodex_1558 (b s : Nat) : xall (fun _ a => xBm a) 2 b s codex_1558 := And.intro (mocodex_1556 b (2 * s)) (mocodex_1557 (b + s) (2 * s))
theorem mocodex_1559 (b s : Nat) : xall (fun _ a => xBm a) 1 b s codex_1559 := And.intro mobx_451 mobx_no
theorem mocodex_1560 (b s : Nat) : xall (fun _ a => xBm a) 1 b s codex_1560 := And.intro mobx_963 mobx_no
theorem mocodex_1561 (b s : Nat) : xall (fun _ a => xBm a) 2 b s codex_1561 := And.intro (mocodex_1559 b (2 * s)) (mocodex_1560 (b + s) (2 * s))
theorem mocodex_1562 (b s : Nat) : xall (fun _ a => xBm a) 3 b s codex_1562 := And.intro (mocodex_1558 b (2 * s)) (mocodex_1561 (b + s) (2 * s))
theorem mocodex_1563 (b s : Nat) : xall (fun _ a => xBm a) 4 b s codex_1563 := And.intro (mocodex_1555 b (2 * s)) (mocodex_1562 (b + s) (2 * s))
theorem mocodex_1564 (b s : Nat) : xall (fun _ a => xBm a) 5 b s codex_1564 := And.intro (mocodex_1548 b (2 * s)) (mocodex_1563 (b + s) (2 * s))
theorem mocodex_1565 (b s : Nat) : xall (fun _ a => xBm a) 1 b s codex_1565 := And.intro mobx_35 mobx_1059
theorem mocodex_1566 (b s : Nat) : xall (fun _ a => xBm a) 1 b s codex_1566 := And.intro mobx_547 mobx_no
theorem mocodex_1567 (b s : Nat) : xall (fun _ a => xBm a) 2 b s codex_1567 := And.intro (mocodex_1565 b (2 * s)) (mocodex_1566 (b + s) (2 * s))
theorem mocodex_1568 (b s : Nat) : xall (fun _ a => xBm a) 1 b s codex_1568 := And.intro mobx_291 mobx_no
theorem mocodex_1569 (b s : Nat) : xall (fun _ a => xBm a) 1 b s codex_1569 := And.intro mobx_803 mobx_no
theorem mocodex_1570 (b s : Nat) : xall (fun _ a => xBm a) 2 b s codex_1570 := And.intro (mocodex_1568 b (2 * s)) (mocodex_1569 (b + s) (2 * s))
theorem mocodex_1571 (b s : Nat) : xall (fun _ a => xBm a) 3 b s codex_1571 := And.intro (mocodex_1567 b (2 * s)) (mocodex_1570 (b + s) (2 * s))
theorem mocodex_1572 (b s : Nat) : xall (fun _ a => xBm a) 1 b s codex_1572 := And.intro mobx_163 mobx_1187
theorem mocodex_1573 (b s : Nat) : xall (fun _ a => xBm a) 1 b s codex_1573 := And.intro mobx_675 mobx_no
theorem mocodex_1574 (b s : Nat) : xall (fun _ a => xBm a) 2 b s codex_1574 := And.intro (mocodex_1572 b (2 * s)) (mocodex_1573 (b + s) (2 * s))
theorem mocodex_1575 (b s : Nat) : xall (fun _ a => xBm a) 1 b s codex_1575 := And.intro mobx_419 mobx_no
theorem mocodex_1576 (b s : Nat) : xall (fun _ a => xBm a) 1 b s codex_1576 := And.intro mobx_931 mobx_no
theorem mocodex_1577 (b s : Nat) : xall (fun _ a => xBm a) 2 b s codex_1577 := And.intro (mocodex_1575 b (2 * s)) (mocodex_1576 (b + s) (2 * s))
theorem mocodex_1578 (b s : Nat) : xall (fun _ a => xBm a) 3 b s codex_1578 := And.intro (mocodex_1574 b (2 * s)) (mocodex_1577 (b + s) (2 * s))
theorem mocodex_1579 (b s : Nat) : xall (fun _ a => xBm a) 4 b s codex_1579 := And.intro (mocodex_1571 b (2 * s)) (mocodex_1578 (b + s) (2 * s))
theorem mocodex_1580 (b s : Nat) : xall (fun _ a => xBm a) 1 b s codex_1580 := And.intro mobx_99 mobx_1123
theorem mocodex_1581 (b s : Nat) : xall (fun _ a => xBm a) 1 b s codex_1581 := And.intro mobx_611 mobx_no
theorem mocodex_1582 (b s : Nat) : xall (fun _ a => xBm a) 2 b s codex_1582 := And.intro (mocodex_1580 b (2 * s)) (mocodex_1581 (b + s) (2 * s))
theorem mocodex_1583 (b s : Nat) : xall (fun _ a => xBm a) 1 b s codex_1583 := And.intro mobx_355 mobx_no
theorem mocodex_1584 (b s : Nat) : xall (fun _ a => xBm a) 1 b s codex_1584 := And.intro mobx_867 mobx_no
theorem mocodex_1585 (b s : Nat) : xall (fun _ a => xBm a) 2 b s codex_1585 := And.intro (mocodex_1583 b (2 * s)) (mocodex_1584 (b + s) (2 * s))
theorem mocodex_1586 (b s : Nat) : xall (fun _ a => xBm a) 3 b s codex_1586 := And.intro (mocodex_1582 b (2 * s)) (mocodex_1585 (b + s) (2 * s))
theorem mocodex_1587 (b s : Nat) : xall (fun _ a => xBm a) 1 b s codex_1587 := And.intro mobx_227 mobx_no
theorem mocodex_1588 (b s : Nat) : xall (fun _ a => xBm a) 1 b s codex_1588 := And.intro mobx_739 mobx_no
theorem mocodex_1589 (b s : Nat) : xall (fun _ a => xBm a) 2 b s codex_1589 := And.intro (mocodex_1587 b (2 * s)) (mocodex_1588 (b + s) (2 * s))
theorem mocodex_1590 (b s : Nat) : xall (fun _ a => xBm a) 1 b s codex_1590 := And.intro mobx_483 mobx_no
theorem mocodex_1591 (b s : Nat) : xall (fun _ a => xBm a) 1 b s codex_1591 := And.intro mobx_995 mobx_no
theorem mocodex_1592 (b s : Nat) : xall (fun _ a => xBm a) 2 b s codex_1592 := And.intro (mocodex_1590 b (2 * s)) (mocodex_1591 (b + s) (2 * s))
theorem mocodex_1593 (b s : Nat) : xall (fun _ a => xBm a) 3 b s codex_1593 := And.intro (mocodex_1589 b (2 * s)) (mocodex_1592 (b + s) (2 * s))
theorem mocodex_1594 (b s : Nat) : xall (fun _ a => xBm a) 4 b s codex_1594 := And.intro (mocodex_1586 b (2 * s)) (mocodex_1593 (b + s) (2 * s))
theorem mocodex_1595 (b s : Nat) : xall (fun _ a => xBm a) 5 b s codex_1595 := And.intro (mocodex_1579 b (2 * s)) (mocodex_1594 (b + s) (2 * s))
theorem mocodex_1596 (b s : Nat) : xall (fun _ a => xBm a) 6 b s codex_1596 := And.intro (mocodex_1564 b (2 * s)) (mocodex_1595 (b + s) (2 * s))
theorem mocodex_1597 (b s : Nat) : xall (fun _ a => xBm a) 1 b s codex_1597 := And.intro mobx_19 mobx_1043
theorem mocodex_1598 (b s : Nat) : xall (fun _ a => xBm a) 1 b s codex_1598 := And.intro mobx_531 mobx_no
theorem mocodex_1599 (b s : Nat) : xall (fun _ a => xBm a) 2 b s codex_1599 := And.intro (mocodex_1597 b (2 * s)) (mocodex_1598 (b + s) (2 * s))
theorem mocodex_1600 (b s : Nat) : xall (fun _ a => xBm a) 1 b s codex_1600 := And.intro mobx_275 mobx_no
theorem mocodex_1601 (b s : Nat) : xall (fun _ a => xBm a) 1 b s codex_1601 := And.intro mobx_787 mobx_no
theorem mocodex_1602 (b s : Nat) : xall (fun _ a => xBm a) 2 b s codex_1602 := And.intro (mocodex_1600 b (2 * s)) (mocodex_1601 (b + s) (2 * s))
theorem mocodex_1603 (b s : Nat) : xall (fun _ a => xBm a) 3 b s codex_1603 := And.intro (mocodex_1599 b (2 * s)) (mocodex_1602 (b + s) (2 * s))
theorem mocodex_1604 (b s : Nat) : xall (fun _ a => xBm a) 1 b s codex_1604 := And.intro mobx_147 mobx_1171
theorem mocodex_1605 (b s : Nat) : xall (fun _ a => xBm a) 1 b s codex_1605 := And.intro mobx_659 mobx_no
theorem mocodex_1606 (b s : Nat) : xall (fun _ a => xBm a) 2 b s codex_1606 := And.intro (mocodex_1604 b (2 * s)) (mocodex_1605 (b + s) (2 * s))
theorem mocodex_1607 (b s : Nat) : xall (fun _ a => xBm a) 1 b s codex_1607 := And.intro mobx_403 mobx_no
theorem mocodex_1608 (b s : Nat) : xall (fun _ a => xBm a) 1 b s codex_1608 := And.intro mobx_915 mobx_no
theorem mocodex_1609 (b s : Nat) : xall (fun _ a => xBm a) 2 b s codex_1609 := And.intro (mocodex_1607 b (2 * s)) (mocodex_1608 (b + s) (2 * s))
theorem mocodex_1610 (b s : Nat) : xall (fun _ a => xBm a) 3 b s codex_1610 := And.intro (mocodex_1606 b (2 * s)) (mocodex_1609 (b + s) (2 * s))
theorem mocodex_1611 (b s : Nat) : xall (fun _ a => xBm a) 4 b s codex_1611 := And.intro (mocodex_1603 b (2 * s)) (mocodex_1610 (b + s) (2 * s))
theorem mocodex_1612 (b s : Nat) : xall (fun _ a => xBm a) 1 b s codex_1612 := And.intro mobx_83 mobx_1107
theorem mocodex_1613 (b s : Nat) : xall (fun _ a => xBm a) 1 b s codex_1613 := And.intro mobx_595 mobx_no
theorem mocodex_1614 (b s : Nat) : xall (fun _ a => xBm a) 2 b s codex_1614 := And.intro (mocodex_1612 b (2 * s)) (mocodex_1613 (b + s) (2 * s))
theorem mocodex_1615 (b s : Nat) : xall (fun _ a => xBm a) 1 b s codex_1615 := And.intro mobx_339 mobx_no
theorem mocodex_1616 (b s : Nat) : xall (fun _ a => xBm a) 1 b s codex_1616 := And.intro mobx_851 mobx_no
theorem mocodex_1617 (b s : Nat) : xall (fun _ a => xBm a) 2 b s codex_1617 := And.intro (mocodex_1615 b (2 * s)) (mocodex_1616 (b + s) (2 * s))
theorem mocodex_1618 (b s : Nat) : xall (fun _ a => xBm a) 3 b s codex_1618 := And.intro (mocodex_1614 b (2 * s)) (mocodex_1617 (b + s) (2 * s))
theorem mocodex_1619 (b s : Nat) : xall (fun _ a => xBm a) 1 b s codex_1619 := And.intro mobx_211 mobx_no
theorem mocodex_1620 (b s : Nat) : xall (fun _ a => xBm a) 1 b s codex_1620 := And.intro mobx_723 mobx_no
theorem mocodex_1621 (b s : Nat) : xall (fun _ a => xBm a) 2 b s codex_1621 := And.intro (mocodex_1619 b (2 * s)) (mocodex_1620 (b + s) (2 * s))
theorem mocodex_1622 (b s : Nat) : xall (fun _ a => xBm a) 1 b s codex_1622 := And.intro mobx_467 mobx_no
theorem mocodex_1623 (b s : Nat) : xall (fun _ a => xBm a) 1 b s codex_1623 := And.intro mobx_979 mobx_no
theorem mocodex_1624 (b s : Nat) : xall (fun _ a => xBm a) 2 b s codex_1624 := And.intro (mocodex_1622 b (2 * s)) (mocodex_1623 (b + s) (2 * s))
theorem mocodex_1625 (b s : Nat) : xall (fun _ a => xBm a) 3 b s codex_1625 := And.intro (mocodex_1621 b (2 * s)) (mocodex_1624 (b + s) (2 * s))
theorem mocodex_1626 (b s : Nat) : xall (fun _ a => xBm a) 4 b s codex_1626 := And.intro (mocodex_1618 b (2 * s)) (mocodex_1625 (b + s) (2 * s))
theorem mocodex_1627 (b s : Nat) : xall (fun _ a => xBm a) 5 b s codex_1627 := And.intro (mocodex_1611 b (2 * s)) (mocodex_1626 (b + s) (2 * s))
theorem mocodex_1628 (b s : Nat) : xall (fun _ a => xBm a) 1 b s codex_1628 := And.intro mobx_51 mobx_1075
theorem mocodex_1629 (b s : Nat) : xall (fun _ a => xBm a) 1 b s codex_1629 := And.intro mobx_563 mobx_no
theorem mocodex_1630 (b s : Nat) : xall (fun _ a => xBm a) 2 b s codex_1630 := And.intro (mocodex_1628 b (2 * s)) (mocodex_1629 (b + s) (2 * s))
theorem mocodex_1631 (b s : Nat) : xall (fun _ a => xBm a) 1 b s codex_1631 := And.intro mobx_307 mobx_no
theorem mocodex_1632 (b s : Nat) : xall (fun _ a => xBm a) 1 b s codex_1632 := And.intro mobx_819 mobx_no
theorem mocodex_1633 (b s : Nat) : xall (fun _ a => xBm a) 2 b s codex_1633 := And.intro (mocodex_1631 b (2 * s)) (mocodex_1632 (b + s) (2 * s))
theorem mocodex_1634 (b s : Nat) : xall (fun _ a => xBm a) 3 b s codex_1634 := And.intro (mocodex_1630 b (2 * s)) (mocodex_1633 (b + s) (2 * s))
theorem mocodex_1635 (b s : Nat) : xall (fun _ a => xBm a) 1 b s codex_1635 := And.intro mobx_179 mobx_no
theorem mocodex_1636 (b s : Nat) : xall (fun _ a => xBm a) 1 b s codex_1636 := And.intro mobx_691 mobx_no
theorem mocodex_1637 (b s : Nat) : xall (fun _ a => xBm a) 2 b s codex_1637 := And.intro (mocodex_1635 b (2 * s)) (mocodex_1636 (b + s) (2 * s))
theorem mocodex_1638 (b s : Nat) : xall (fun _ a => xBm a) 1 b s codex_1638 := And.intro mobx_435 mobx_no
theorem mocodex_1639 (b s : Nat) : xall (fun _ a => xBm a) 1 b s codex_1639 := And.intro mobx_947 mobx_no
theorem mocodex_1640 (b s : Nat) : xall (fun _ a => xBm a) 2 b s codex_1640 := And.intro (mocodex_1638 b (2 * s)) (mocodex_1639 (b + s) (2 * s))
theorem mocodex_1641 (b s : Nat) : xall (fun _ a => xBm a) 3 b s codex_1641 := And.intro (mocodex_1637 b (2 * s)) (mocodex_1640 (b + s) (2 * s))
theorem mocodex_1642 (b s : Nat) : xall (fun _ a => xBm a) 4 b s codex_1642 := And.intro (mocodex_1634 b (2 * s)) (mocodex_1641 (b + s) (2 * s))
theorem mocodex_1643 (b s : Nat) : xall (fun _ a => xBm a) 1 b s codex_1643 := And.intro mobx_115 mobx_1139
theorem mocodex_1644 (b s : Nat) : xall (fun _ a => xBm a) 1 b s codex_1644 := And.intro mobx_627 mobx_no
theorem mocodex_1645 (b s : Nat) : xall (fun _ a => xBm a) 2 b s codex_1645 := And.intro (mocodex_1643 b (2 * s)) (mocodex_1644 (b + s) (2 * s))
theorem mocodex_1646 (b s : Nat) : xall (fun _ a => xBm a) 1 b s codex_1646 := And.intro mobx_371 mobx_no
theorem mocodex_1647 (b s : Nat) : xall (fun _ a => xBm a) 1 b s codex_1647 := And.intro mobx_883 mobx_no
theorem mocodex_1648 (b s : Nat) : xall (fun _ a => xBm a) 2 b s codex_1648 := And.intro (mocodex_1646 b (2 * s)) (mocodex_1647 (b + s) (2 * s))
theorem mocodex_1649 (b s : Nat) : xall (fun _ a => xBm a) 3 b s codex_1649 := And.intro (mocodex_1645 b (2 * s)) (mocodex_1648 (b + s) (2 * s))
theorem mocodex_1650 (b s : Nat) : xall (fun _ a => xBm a) 1 b s codex_1650 := And.intro mobx_243 mobx_no
theorem mocodex_1651 (b s : Nat) : xall (fun _ a => xBm a) 1 b s codex_1651 := And.intro mobx_755 mobx_no
theorem mocodex_1652 (b s : Nat) : xall (fun _ a => xBm a) 2 b s codex_1652 := And.intro (mocodex_1650 b (2 * s)) (mocodex_1651 (b + s) (2 * s))
theorem mocodex_1653 (b s : Nat) : xall (fun _ a => xBm a) 1 b s codex_1653 := And.intro mobx_499 mobx_no
theorem mocodex_1654 (b s : Nat) : xall (fun _ a => xBm a) 1 b s codex_1654 := And.intro mobx_1011 mobx_no
theorem mocodex_1655 (b s : Nat) : xall (fun _ a => xBm a) 2 b s codex_1655 := And.intro (mocodex_1653 b (2 * s)) (mocodex_1654 (b + s) (2 * s))
theorem mocodex_1656 (b s : Nat) : xall (fun _ a => xBm a) 3 b s codex_1656 := And.intro (mocodex_1652 b (2 * s)) (mocodex_1655 (b + s) (2 * s))
theorem mocodex_1657 (b s : Nat) : xall (fun _ a => xBm a) 4 b s codex_1657 := And.intro (mocodex_1649 b (2 * s)) (mocodex_1656 (b + s) (2 * s))
theorem mocodex_1658 (b s : Nat) : xall (fun _ a => xBm a) 5 b s codex_1658 := And.intro (mocodex_1642 b (2 * s)) (mocodex_1657 (b + s) (2 * s))
theorem mocodex_1659 (b s : Nat) : xall (fun _ a => xBm a) 6 b s codex_1659 := And.intro (mocodex_1627 b (2 * s)) (mocodex_1658 (b + s) (2 * s))
theorem mocodex_1660 (b s : Nat) : xall (fun _ a => xBm a) 7 b s codex_1660 := And.intro (mocodex_1596 b (2 * s)) (mocodex_1659 (b + s) (2 * s))
theorem mocodex_1661 (b s : Nat) : xall (fun _ a => xBm a) 1 b s codex_1661 := And.intro mobx_11 mobx_1035
theorem mocodex_1662 (b s : Nat) : xall (fun _ a => xBm a) 1 b s codex_1662 := And.intro mobx_523 mobx_no
theorem mocodex_1663 (b s : Nat) : xall (fun _ a => xBm a) 2 b s codex_1663 := And.intro (mocodex_1661 b (2 * s)) (mocodex_1662 (b + s) (2 * s))
theorem mocodex_1664 (b s : Nat) : xall (fun _ a => xBm a) 1 b s codex_1664 := And.intro mobx_267 mobx_no
theorem mocodex_1665 (b s : Nat) : xall (fun _ a => xBm a) 1 b s codex_1665 := And.intro mobx_779 mobx_no
theorem mocodex_1666 (b s : Nat) : xall (fun _ a => xBm a) 2 b s codex_1666 := And.intro (mocodex_1664 b (2 * s)) (mocodex_1665 (b + s) (2 * s))
theorem mocodex_1667 (b s : Nat) : xall (fun _ a => xBm a) 3 b s codex_1667 := And.intro (mocodex_1663 b (2 * s)) (mocodex_1666 (b + s) (2 * s))
theorem mocodex_1668 (b s : Nat) : xall (fun _ a => xBm a) 1 b s codex_1668 := And.intro mobx_139 mobx_1163
theorem mocodex_1669 (b s : Nat) : xall (fun _ a => xBm a) 1 b s codex_1669 := And.intro mobx_651 mobx_no
theorem mocodex_1670 (b s : Nat) : xall (fun _ a => xBm a) 2 b s codex_1670 := And.intro (mocodex_1668 b (2 * s)) (mocodex_1669 (b + s) (2 * s))
theorem mocodex_1671 (b s : Nat) : xall (fun _ a => xBm a) 1 b s codex_1671 := And.intro mobx_395 mobx_no
theorem mocodex_1672 (b s : Nat) : xall (fun _ a => xBm a) 1 b s codex_1672 := And.intro mobx_907 mobx_no
theorem mocodex_1673 (b s : Nat) : xall (fun _ a => xBm a) 2 b s codex_1673 := And.intro (mocodex_1671 b (2 * s)) (mocodex_1672 (b + s) (2 * s))
theorem mocodex_1674 (b s : Nat) : xall (fun _ a => xBm a) 3 b s codex_1674 := And.intro (mocodex_1670 b (2 * s)) (mocodex_1673 (b + s) (2 * s))
theorem mocodex_1675 (b s : Nat) : xall (fun _ a => xBm a) 4 b s codex_1675 := And.intro (mocodex_1667 b (2 * s)) (mocodex_1674 (b + s) (2 * s))
theorem mocodex_1676 (b s : Nat) : xall (fun _ a => xBm a) 1 b s codex_1676 := And.intro mobx_75 mobx_1099
theorem mocodex_1677 (b s : Nat) : xall (fun _ a => xBm a) 1 b s codex_1677 := And.intro mobx_587 mobx_no
theorem mocodex_1678 (b s : Nat) : xall (fun _ a => xBm a) 2 b s codex_1678 := And.intro (mocodex_1676 b (2 * s)) (mocodex_1677 (b + s) (2 * s))
theorem mocodex_1679 (b s : Nat) : xall (fun _ a => xBm a) 1 b s codex_1679 := And.intro mobx_331 mobx_no
theorem mocodex_1680 (b s : Nat) : xall (fun _ a => xBm a) 1 b s codex_1680 := And.intro mobx_843 mobx_no
theorem mocodex_1681 (b s : Nat) : xall (fun _ a => xBm a) 2 b s codex_1681 := And.intro (mocodex_1679 b (2 * s)) (mocodex_1680 (b + s) (2 * s))
theorem mocodex_1682 (b s : Nat) : xall (fun _ a => xBm a) 3 b s codex_1682 := And.intro (mocodex_1678 b (2 * s)) (mocodex_1681 (b + s) (2 * s))
theorem mocodex_1683 (b s : Nat) : xall (fun _ a => xBm a) 1 b s codex_1683 := And.intro mobx_203 mobx_no
theorem mocodex_1684 (b s : Nat) : xall (fun _ a => xBm a) 1 b s codex_1684 := And.intro mobx_715 mobx_no
theorem mocodex_1685 (b s : Nat) : xall (fun _ a => xBm a) 2 b s codex_1685 := And.intro (mocodex_1683 b (2 * s)) (mocodex_1684 (b + s) (2 * s))
theorem mocodex_1686 (b s : Nat) : xall (fun _ a => xBm a) 1 b s codex_1686 := And.intro mobx_459 mobx_no
theorem mocodex_1687 (b s : Nat) : xall (fun _ a => xBm a) 1 b s codex_1687 := And.intro mobx_971 mobx_no
theorem mocodex_1688 (b s : Nat) : xall (fun _ a => xBm a) 2 b s codex_1688 := And.intro (mocodex_1686 b (2 * s)) (mocodex_1687 (b + s) (2 * s))
theorem mocodex_1689 (b s : Nat) : xall (fun _ a => xBm a) 3 b s codex_1689 := And.intro (mocodex_1685 b (2 * s)) (mocodex_1688 (b + s) (2 * s))
theorem mocodex_1690 (b s : Nat) : xall (fun _ a => xBm a) 4 b s codex_1690 := And.intro (mocodex_1682 b (2 * s)) (mocodex_1689 (b + s) (2 * s))
theorem mocodex_1691 (b s : Nat) : xall (fun _ a => xBm a) 5 b s codex_1691 := And.intro (mocodex_1675 b (2 * s)) (mocodex_1690 (b + s) (2 * s))
theorem mocodex_1692 (b s : Nat) : xall (fun _ a => xBm a) 1 b s codex_1692 := And.intro mobx_43 mobx_1067
theorem mocodex_1693 (b s : Nat) : xall (fun _ a => xBm a) 1 b s codex_1693 := And.intro mobx_555 mobx_no
theorem mocodex_1694 (b s : Nat) : xall (fun _ a => xBm a) 2 b s codex_1694 := And.intro (mocodex_1692 b (2 * s)) (mocodex_1693 (b + s) (2 * s))
theorem mocodex_1695 (b s : Nat) : xall (fun _ a => xBm a) 1 b s codex_1695 := And.intro mobx_299 mobx_no
theorem mocodex_1696 (b s : Nat) : xall (fun _ a => xBm a) 1 b s codex_1696 := And.intro mobx_811 mobx_no
theorem mocodex_1697 (b s : Nat) : xall (fun _ a => xBm a) 2 b s codex_1697 := And.intro (mocodex_1695 b (2 * s)) (mocodex_1696 (b + s) (2 * s))
theorem mocodex_1698 (b s : Nat) : xall (fun _ a => xBm a) 3 b s codex_1698 := And.intro (mocodex_1694 b (2 * s)) (mocodex_1697 (b + s) (2 * s))
theorem mocodex_1699 (b s : Nat) : xall (fun _ a => xBm a) 1 b s codex_1699 := And.intro mobx_171 mobx_no
theorem mocodex_1700 (b s : Nat) : xall (fun _ a => xBm a) 1 b s codex_1700 := And.intro mobx_683 mobx_no
theorem mocodex_1701 (b s : Nat) : xall (fun _ a => xBm a) 2 b s codex_1701 := And.intro (mocodex_1699 b (2 * s)) (mocodex_1700 (b + s) (2 * s))
theorem mocodex_1702 (b s : Nat) : xall (fun _ a => xBm a) 1 b s codex_1702 := And.intro mobx_427 mobx_no
theorem mocodex_1703 (b s : Nat) : xall (fun _ a => xBm a) 1 b s codex_1703 := And.intro mobx_939 mobx_no
theorem mocodex_1704 (b s : Nat) : xall (fun _ a => xBm a) 2 b s codex_1704 := And.intro (mocodex_1702 b (2 * s)) (mocodex_1703 (b + s) (2 * s))
theorem mocodex_1705 (b s : Nat) : xall (fun _ a => xBm a) 3 b s codex_1705 := And.intro (mocodex_1701 b (2 * s)) (mocodex_1704 (b + s) (2 * s))
theorem mocodex_1706 (b s : Nat) : xall (fun _ a => xBm a) 4 b s codex_1706 := And.intro (mocodex_1698 b (2 * s)) (mocodex_1705 (b + s) (2 * s))
theorem mocodex_1707 (b s : Nat) : xall (fun _ a => xBm a) 1 b s codex_1707 := And.intro mobx_107 mobx_1131
theorem mocodex_1708 (b s : Nat) : xall (fun _ a => xBm a) 1 b s codex_1708 := And.intro mobx_619 mobx_no
theorem mocodex_1709 (b s : Nat) : xall (fun _ a => xBm a) 2 b s codex_1709 := And.intro (mocodex_1707 b (2 * s)) (mocodex_1708 (b + s) (2 * s))
theorem mocodex_1710 (b s : Nat) : xall (fun _ a => xBm a) 1 b s codex_1710 := And.intro mobx_363 mobx_no
theorem mocodex_1711 (b s : Nat) : xall (fun _ a => xBm a) 1 b s codex_1711 := And.intro mobx_875 mobx_no
theorem mocodex_1712 (b s : Nat) : xall (fun _ a => xBm a) 2 b s codex_1712 := And.intro (mocodex_1710 b (2 * s)) (mocodex_1711 (b + s) (2 * s))
theorem mocodex_1713 (b s : Nat) : xall (fun _ a => xBm a) 3 b s codex_1713 := And.intro (mocodex_1709 b (2 * s)) (mocodex_1712 (b + s) (2 * s))
theorem mocodex_1714 (b s : Nat) : xall (fun _ a => xBm a) 1 b s codex_1714 := And.intro mobx_235 mobx_no
theorem mocodex_1715 (b s : Nat) : xall (fun _ a => xBm a) 1 b s codex_1715 := And.intro mobx_747 mobx_no
theorem mocodex_1716 (b s : Nat) : xall (fun _ a => xBm a) 2 b s codex_1716 := And.intro (mocodex_1714 b (2 * s)) (mocodex_1715 (b + s) (2 * s))
theorem mocodex_1717 (b s : Nat) : xall (fun _ a => xBm a) 1 b s codex_1717 := And.intro mobx_491 mobx_no
theorem mocodex_1718 (b s : Nat) : xall (fun _ a => xBm a) 1 b s codex_1718 := And.intro mobx_1003 mobx_no
theorem mocodex_1719 (b s : Nat) : xall (fun _ a => xBm a) 2 b s codex_1719 := And.intro (mocodex_1717 b (2 * s)) (mocodex_1718 (b + s) (2 * s))
theorem mocodex_1720 (b s : Nat) : xall (fun _ a => xBm a) 3 b s codex_1720 := And.intro (mocodex_1716 b (2 * s)) (mocodex_1719 (b + s) (2 * s))
theorem mocodex_1721 (b s : Nat) : xall (fun _ a => xBm a) 4 b s codex_1721 := And.intro (mocodex_1713 b (2 * s)) (mocodex_1720 (b + s) (2 * s))
theorem mocodex_1722 (b s : Nat) : xall (fun _ a => xBm a) 5 b s codex_1722 := And.intro (mocodex_1706 b (2 * s)) (mocodex_1721 (b + s) (2 * s))
theorem mocodex_1723 (b s : Nat) : xall (fun _ a => xBm a) 6 b s codex_1723 := And.intro (mocodex_1691 b (2 * s)) (mocodex_1722 (b + s) (2 * s))
theorem mocodex_1724 (b s : Nat) : xall (fun _ a => xBm a) 1 b s codex_1724 := And.intro mobx_27 mobx_1051
theorem mocodex_1725 (b s : Nat) : xall (fun _ a => xBm a) 1 b s codex_1725 := And.intro mobx_539 mobx_no
theorem mocodex_1726 (b s : Nat) : xall (fun _ a => xBm a) 2 b s codex_1726 := And.intro (mocodex_1724 b (2 * s)) (mocodex_1725 (b + s) (2 * s))
theorem mocodex_1727 (b s : Nat) : xall (fun _ a => xBm a) 1 b s codex_1727 := And.intro mobx_283 mobx_no
theorem mocodex_1728 (b s : Nat) : xall (fun _ a => xBm a) 1 b s codex_1728 := And.intro mobx_795 mobx_no
theorem mocodex_1729 (b s : Nat) : xall (fun _ a => xBm a) 2 b s codex_1729 := And.intro (mocodex_1727 b (2 * s)) (mocodex_1728 (b + s) (2 * s))
theorem mocodex_1730 (b s : Nat) : xall (fun _ a => xBm a) 3 b s codex_1730 := And.intro (mocodex_1726 b (2 * s)) (mocodex_1729 (b + s) (2 * s))
theorem mocodex_1731 (b s : Nat) : xall (fun _ a => xBm a) 1 b s codex_1731 := And.intro mobx_155 mobx_1179
theorem mocodex_1732 (b s : Nat) : xall (fun _ a => xBm a) 1 b s codex_1732 := And.intro mobx_667 mobx_no
theorem mocodex_1733 (b s : Nat) : xall (fun _ a => xBm a) 2 b s codex_1733 := And.intro (mocodex_1731 b (2 * s)) (mocodex_1732 (b + s) (2 * s))
theorem mocodex_1734 (b s : Nat) : xall (fun _ a => xBm a) 1 b s codex_1734 := And.intro mobx_411 mobx_no
theorem mocodex_1735 (b s : Nat) : xall (fun _ a => xBm a) 1 b s codex_1735 := And.intro mobx_923 mobx_no
theorem mocodex_1736 (b s : Nat) : xall (fun _ a => xBm a) 2 b s codex_1736 := And.intro (mocodex_1734 b (2 * s)) (mocodex_1735 (b + s) (2 * s))
theorem mocodex_1737 (b s : Nat) : xall (fun _ a => xBm a) 3 b s codex_1737 := And.intro (mocodex_1733 b (2 * s)) (mocodex_1736 (b + s) (2 * s))
theorem mocodex_1738 (b s : Nat) : xall (fun _ a => xBm a) 4 b s codex_1738 := And.intro (mocodex_1730 b (2 * s)) (mocodex_1737 (b + s) (2 * s))
theorem mocodex_1739 (b s : Nat) : xall (fun _ a => xBm a) 1 b s codex_1739 := And.intro mobx_91 mobx_1115
theorem mocodex_1740 (b s : Nat) : xall (fun _ a => xBm a) 1 b s codex_1740 := And.intro mobx_603 mobx_no
theorem mocodex_1741 (b s : Nat) : xall (fun _ a => xBm a) 2 b s codex_1741 := And.intro (mocodex_1739 b (2 * s)) (mocodex_1740 (b + s) (2 * s))
theorem mocodex_1742 (b s : Nat) : xall (fun _ a => xBm a) 1 b s codex_1742 := And.intro mobx_347 mobx_no
theorem mocodex_1743 (b s : Nat) : xall (fun _ a => xBm a) 1 b s codex_1743 := And.intro mobx_859 mobx_no
theorem mocodex_1744 (b s : Nat) : xall (fun _ a => xBm a) 2 b s codex_1744 := And.intro (mocodex_1742 b (2 * s)) (mocodex_1743 (b + s) (2 * s))
theorem mocodex_1745 (b s : Nat) : xall (fun _ a => xBm a) 3 b s codex_1745 := And.intro (mocodex_1741 b (2 * s)) (mocodex_1744 (b + s) (2 * s))
theorem mocodex_1746 (b s : Nat) : xall (fun _ a => xBm a) 1 b s codex_1746 := And.intro mobx_219 mobx_no
theorem mocodex_1747 (b s : Nat) : xall (fun _ a => xBm a) 1 b s codex_1747 := And.intro mobx_731 mobx_no
theorem mocodex_1748 (b s : Nat) : xall (fun _ a => xBm a) 2 b s codex_1748 := And.intro (mocodex_1746 b (2 * s)) (mocodex_1747 (b + s) (2 * s))
theorem mocodex_1749 (b s : Nat) : xall (fun _ a => xBm a) 1 b s codex_1749 := And.intro mobx_475 mobx_no
theorem mocodex_1750 (b s : Nat) : xall (fun _ a => xBm a) 1 b s codex_1750 := And.intro mobx_987 mobx_no
theorem mocodex_1751 (b s : Nat) : xall (fun _ a => xBm a) 2 b s codex_1751 := And.intro (mocodex_1749 b (2 * s)) (mocodex_1750 (b + s) (2 * s))
theorem mocodex_1752 (b s : Nat) : xall (fun _ a => xBm a) 3 b s codex_1752 := And.intro (mocodex_1748 b (2 * s)) (mocodex_1751 (b + s) (2 * s))
theorem mocodex_1753 (b s : Nat) : xall (fun _ a => xBm a) 4 b s codex_1753 := And.intro (mocodex_1745 b (2 * s)) (mocodex_1752 (b + s) (2 * s))
theorem mocodex_1754 (b s : Nat) : xall (fun _ a => xBm a) 5 b s codex_1754 := And.intro (mocodex_1738 b (2 * s)) (mocodex_1753 (b + s) (2 * s))
theorem mocodex_1755 (b s : Nat) : xall (fun _ a => xBm a) 1 b s codex_1755 := And.intro mobx_59 mobx_1083
theorem mocodex_1756 (b s : Nat) : xall (fun _ a => xBm a) 1 b s codex_1756 := And.intro mobx_571 mobx_no
theorem mocodex_1757 (b s : Nat) : xall (fun _ a => xBm a) 2 b s codex_1757 := And.intro (mocodex_1755 b (2 * s)) (mocodex_1756 (b + s) (2 * s))
theorem mocodex_1758 (b s : Nat) : xall (fun _ a => xBm a) 1 b s codex_1758 := And.intro mobx_315 mobx_no
theorem mocodex_1759 (b s : Nat) : xall (fun _ a => xBm a) 1 b s codex_1759 := And.intro mobx_827 mobx_no
theorem mocodex_1760 (b s : Nat) : xall (fun _ a => xBm a) 2 b s codex_1760 := And.intro (mocodex_1758 b (2 * s)) (mocodex_1759 (b + s) (2 * s))
theorem mocodex_1761 (b s : Nat) : xall (fun _ a => xBm a) 3 b s codex_1761 := And.intro (mocodex_1757 b (2 * s)) (mocodex_1760 (b + s) (2 * s))
theorem mocodex_1762 (b s : Nat) : xall (fun _ a => xBm a) 1 b s codex_1762 := And.intro mobx_187 mobx_no
theorem mocodex_1763 (b s : Nat) : xall (fun _ a => xBm a) 1 b s codex_1763 := And.intro mobx_699 mobx_no
theorem mocodex_1764 (b s : Nat) : xall (fun _ a => xBm a) 2 b s codex_1764 := And.intro (mocodex_1762 b (2 * s)) (mocodex_1763 (b + s) (2 * s))
theorem mocodex_1765 (b s : Nat) : xall (fun _ a => xBm a) 1 b s codex_1765 := And.intro mobx_443 mobx_no
theorem mocodex_1766 (b s : Nat) : xall (fun _ a => xBm a) 1 b s codex_1766 := And.intro mobx_955 mobx_no
theorem mocodex_1767 (b s : Nat) : xall (fun _ a => xBm a) 2 b s codex_1767 := And.intro (mocodex_1765 b (2 * s)) (mocodex_1766 (b + s) (2 * s))
theorem mocodex_1768 (b s : Nat) : xall (fun _ a => xBm a) 3 b s codex_1768 := And.intro (mocodex_1764 b (2 * s)) (mocodex_1767 (b + s) (2 * s))
theorem mocodex_1769 (b s : Nat) : xall (fun _ a => xBm a) 4 b s codex_1769 := And.intro (mocodex_1761 b (2 * s)) (mocodex_1768 (b + s) (2 * s))
theorem mocodex_1770 (b s : Nat) : xall (fun _ a => xBm a) 1 b s codex_1770 := And.intro mobx_123 mobx_1147
theorem mocodex_1771 (b s : Nat) : xall (fun _ a => xBm a) 1 b s codex_1771 := And.intro mobx_635 mobx_no
theorem mocodex_1772 (b s : Nat) : xall (fun _ a => xBm a) 2 b s codex_1772 := And.intro (mocodex_1770 b (2 * s)) (mocodex_1771 (b + s) (2 * s))
theorem mocodex_1773 (b s : Nat) : xall (fun _ a => xBm a) 1 b s codex_1773 := And.intro mobx_379 mobx_no
theorem mocodex_1774 (b s : Nat) : xall (fun _ a => xBm a) 1 b s codex_1774 := And.intro mobx_891 mobx_no
theorem mocodex_1775 (b s : Nat) : xall (fun _ a => xBm a) 2 b s codex_1775 := And.intro (mocodex_1773 b (2 * s)) (mocodex_1774 (b + s) (2 * s))
theorem mocodex_1776 (b s : Nat) : xall (fun _ a => xBm a) 3 b s codex_1776 := And.intro (mocodex_1772 b (2 * s)) (mocodex_1775 (b + s) (2 * s))
theorem mocodex_1777 (b s : Nat) : xall (fun _ a => xBm a) 1 b s codex_1777 := And.intro mobx_251 mobx_no
theorem mocodex_1778 (b s : Nat) : xall (fun _ a => xBm a) 1 b s codex_1778 := And.intro mobx_763 mobx_no
theorem mocodex_1779 (b s : Nat) : xall (fun _ a => xBm a) 2 b s codex_1779 := And.intro (mocodex_1777 b (2 * s)) (mocodex_1778 (b + s) (2 * s))
theorem mocodex_1780 (b s : Nat) : xall (fun _ a => xBm a) 1 b s codex_1780 := And.intro mobx_507 mobx_no
theorem mocodex_1781 (b s : Nat) : xall (fun _ a => xBm a) 1 b s codex_1781 := And.intro mobx_1019 mobx_no
theorem mocodex_1782 (b s : Nat) : xall (fun _ a => xBm a) 2 b s codex_1782 := And.intro (mocodex_1780 b (2 * s)) (mocodex_1781 (b + s) (2 * s))
theorem mocodex_1783 (b s : Nat) : xall (fun _ a => xBm a) 3 b s codex_1783 := And.intro (mocodex_1779 b (2 * s)) (mocodex_1782 (b + s) (2 * s))
theorem mocodex_1784 (b s : Nat) : xall (fun _ a => xBm a) 4 b s codex_1784 := And.intro (mocodex_1776 b (2 * s)) (mocodex_1783 (b + s) (2 * s))
theorem mocodex_1785 (b s : Nat) : xall (fun _ a => xBm a) 5 b s codex_1785 := And.intro (mocodex_1769 b (2 * s)) (mocodex_1784 (b + s) (2 * s))
theorem mocodex_1786 (b s : Nat) : xall (fun _ a => xBm a) 6 b s codex_1786 := And.intro (mocodex_1754 b (2 * s)) (mocodex_1785 (b + s) (2 * s))
theorem mocodex_1787 (b s : Nat) : xall (fun _ a => xBm a) 7 b s codex_1787 := And.intro (mocodex_1723 b (2 * s)) (mocodex_1786 (b + s) (2 * s))
theorem mocodex_1788 (b s : Nat) : xall (fun _ a => xBm a) 8 b s codex_1788 := And.intro (mocodex_1660 b (2 * s)) (mocodex_1787 (b + s) (2 * s))
theorem mocodex_1789 (b s : Nat) : xall (fun _ a => xBm a) 1 b s codex_1789 := And.intro mobx_7 mobx_1031
theorem mocodex_1790 (b s : Nat) : xall (fun _ a => xBm a) 1 b s codex_1790 := And.intro mobx_519 mobx_no
theorem mocodex_1791 (b s : Nat) : xall (fun _ a => xBm a) 2 b s codex_1791 := And.intro (mocodex_1789 b (2 * s)) (mocodex_1790 (b + s) (2 * s))
theorem mocodex_1792 (b s : Nat) : xall (fun _ a => xBm a) 1 b s codex_1792 := And.intro mobx_263 mobx_no
theorem mocodex_1793 (b s : Nat) : xall (fun _ a => xBm a) 1 b s codex_1793 := And.intro mobx_775 mobx_no
theorem mocodex_1794 (b s : Nat) : xall (fun _ a => xBm a) 2 b s codex_1794 := And.intro (mocodex_1792 b (2 * s)) (mocodex_1793 (b + s) (2 * s))
theorem mocodex_1795 (b s : Nat) : xall (fun _ a => xBm a) 3 b s codex_1795 := And.intro (mocodex_1791 b (2 * s)) (mocodex_1794 (b + s) (2 * s))
theorem mocodex_1796 (b s : Nat) : xall (fun _ a => xBm a) 1 b s codex_1796 := And.intro mobx_135 mobx_1159
theorem mocodex_1797 (b s : Nat) : xall (fun _ a => xBm a) 1 b s codex_1797 := And.intro mobx_647 mobx_no
theorem mocodex_1798 (b s : Nat) : xall (fun _ a => xBm a) 2 b s codex_1798 := And.intro (mocodex_1796 b (2 * s)) (mocodex_1797 (b + s) (2 * s))
theorem mocodex_1799 (b s : Nat) : xall (fun _ a => xBm a) 1 b s codex_1799 := And.intro mobx_391 mobx_no
theorem mocodex_1800 (b s : Nat) : xall (fun _ a => xBm a) 1 b s codex_1800 := And.intro mobx_903 mobx_no
theorem mocodex_1801 (b s : Nat) : xall (fun _ a => xBm a) 2 b s codex_1801 := And.intro (mocodex_1799 b (2 * s)) (mocodex_1800 (b + s) (2 * s))
theorem mocodex_1802 (b s : Nat) : xall (fun _ a => xBm a) 3 b s codex_1802 := And.intro (mocodex_1798 b (2 * s)) (mocodex_1801 (b + s) (2 * s))
theorem mocodex_1803 (b s : Nat) : xall (fun _ a => xBm a) 4 b s codex_1803 := And.intro (mocodex_1795 b (2 * s)) (mocodex_1802 (b + s) (2 * s))
theorem mocodex_1804 (b s : Nat) : xall (fun _ a => xBm a) 1 b s codex_1804 := And.intro mobx_71 mobx_1095
theorem mocodex_1805 (b s : Nat) : xall (fun _ a => xBm a) 1 b s codex_1805 := And.intro mobx_583 mobx_no
theorem mocodex_1806 (b s : Nat) : xall (fun _ a => xBm a) 2 b s codex_1806 := And.intro (mocodex_1804 b (2 * s)) (mocodex_1805 (b + s) (2 * s))
theorem mocodex_1807 (b s : Nat) : xall (fun _ a => xBm a) 1 b s codex_1807 := And.intro mobx_327 mobx_no
theorem mocodex_1808 (b s : Nat) : xall (fun _ a => xBm a) 1 b s codex_1808 := And.intro mobx_839 mobx_no
theorem mocodex_1809 (b s : Nat) : xall (fun _ a => xBm a) 2 b s codex_1809 := And.intro (mocodex_1807 b (2 * s)) (mocodex_1808 (b + s) (2 * s))
theorem mocodex_1810 (b s : Nat) : xall (fun _ a => xBm a) 3 b s codex_1810 := And.intro (mocodex_1806 b (2 * s)) (mocodex_1809 (b + s) (2 * s))
theorem mocodex_1811 (b s : Nat) : xall (fun _ a => xBm a) 1 b s codex_1811 := And.intro mobx_199 mobx_no
theorem mocodex_1812 (b s : Nat) : xall (fun _ a => xBm a) 1 b s codex_1812 := And.intro mobx_711 mobx_no
theorem mocodex_1813 (b s : Nat) : xall (fun _ a => xBm a) 2 b s codex_1813 := And.intro (mocodex_1811 b (2 * s)) (mocodex_1812 (b + s) (2 * s))
theorem mocodex_1814 (b s : Nat) : xall (fun _ a => xBm a) 1 b s codex_1814 := And.intro mobx_455 mobx_no
theorem mocodex_1815 (b s : Nat) : xall (fun _ a => xBm a) 1 b s codex_1815 := And.intro mobx_967 mobx_no
theorem mocodex_1816 (b s : Nat) : xall (fun _ a => xBm a) 2 b s codex_1816 := And.intro (mocodex_1814 b (2 * s)) (mocodex_1815 (b + s) (2 * s))
theorem mocodex_1817 (b s : Nat) : xall (fun _ a => xBm a) 3 b s codex_1817 := And.intro (mocodex_1813 b (2 * s)) (mocodex_1816 (b + s) (2 * s))
theorem mocodex_1818 (b s : Nat) : xall (fun _ a => xBm a) 4 b s codex_1818 := And.intro (mocodex_1810 b (2 * s)) (mocodex_1817 (b + s) (2 * s))
theorem mocodex_1819 (b s : Nat) : xall (fun _ a => xBm a) 5 b s codex_1819 := And.intro (mocodex_1803 b (2 * s)) (mocodex_1818 (b + s) (2 * s))
theorem mocodex_1820 (b s : Nat) : xall (fun _ a => xBm a) 1 b s codex_1820 := And.intro mobx_39 mobx_1063
theorem mocodex_1821 (b s : Nat) : xall (fun _ a => xBm a) 1 b s codex_1821 := And.intro mobx_551 mobx_no
theorem mocodex_1822 (b s : Nat) : xall (fun _ a => xBm a) 2 b s codex_1822 := And.intro (mocodex_1820 b (2 * s)) (mocodex_1821 (b + s) (2 * s))
theorem mocodex_1823 (b s : Nat) : xall (fun _ a => xBm a) 1 b s codex_1823 := And.intro mobx_295 mobx_no
theorem mocodex_1824 (b s : Nat) : xall (fun _ a => xBm a) 1 b s codex_1824 := And.intro mobx_807 mobx_no
theorem mocodex_1825 (b s : Nat) : xall (fun _ a => xBm a) 2 b s codex_1825 := And.intro (mocodex_1823 b (2 * s)) (mocodex_1824 (b + s) (2 * s))
theorem mocodex_1826 (b s : Nat) : xall (fun _ a => xBm a) 3 b s codex_1826 := And.intro (mocodex_1822 b (2 * s)) (mocodex_1825 (b + s) (2 * s))
theorem mocodex_1827 (b s : Nat) : xall (fun _ a => xBm a) 1 b s codex_1827 := And.intro mobx_167 mobx_1191
theorem mocodex_1828 (b s : Nat) : xall (fun _ a => xBm a) 1 b s codex_1828 := And.intro mobx_679 mobx_no
theorem mocodex_1829 (b s : Nat) : xall (fun _ a => xBm a) 2 b s codex_1829 := And.intro (mocodex_1827 b (2 * s)) (mocodex_1828 (b + s) (2 * s))
theorem mocodex_1830 (b s : Nat) : xall (fun _ a => xBm a) 1 b s codex_1830 := And.intro mobx_423 mobx_no
theorem mocodex_1831 (b s : Nat) : xall (fun _ a => xBm a) 1 b s codex_1831 := And.intro mobx_935 mobx_no
theorem mocodex_1832 (b s : Nat) : xall (fun _ a => xBm a) 2 b s codex_1832 := And.intro (mocodex_1830 b (2 * s)) (mocodex_1831 (b + s) (2 * s))
theorem mocodex_1833 (b s : Nat) : xall (fun _ a => xBm a) 3 b s codex_1833 := And.intro (mocodex_1829 b (2 * s)) (mocodex_1832 (b + s) (2 * s))
theorem mocodex_1834 (b s : Nat) : xall (fun _ a => xBm a) 4 b s codex_1834 := And.intro (mocodex_1826 b (2 * s)) (mocodex_1833 (b + s) (2 * s))
theorem mocodex_1835 (b s : Nat) : xall (fun _ a => xBm a) 1 b s codex_1835 := And.intro mobx_103 mobx_1127
theorem mocodex_1836 (b s : Nat) : xall (fun _ a => xBm a) 1 b s codex_1836 := And.intro mobx_615 mobx_no
theorem mocodex_1837 (b s : Nat) : xall (fun _ a => xBm a) 2 b s codex_1837 := And.intro (mocodex_1835 b (2 * s)) (mocodex_1836 (b + s) (2 * s))
theorem mocodex_1838 (b s : Nat) : xall (fun _ a => xBm a) 1 b s codex_1838 := And.intro mobx_359 mobx_no
theorem mocodex_1839 (b s : Nat) : xall (fun _ a => xBm a) 1 b s codex_1839 := And.intro mobx_871 mobx_no
theorem mocodex_1840 (b s : Nat) : xall (fun _ a => xBm a) 2 b s codex_1840 := And.intro (mocodex_1838 b (2 * s)) (mocodex_1839 (b + s) (2 * s))
theorem mocodex_1841 (b s : Nat) : xall (fun _ a => xBm a) 3 b s codex_1841 := And.intro (mocodex_1837 b (2 * s)) (mocodex_1840 (b + s) (2 * s))
theorem mocodex_1842 (b s : Nat) : xall (fun _ a => xBm a) 1 b s codex_1842 := And.intro mobx_231 mobx_no
theorem mocodex_1843 (b s : Nat) : xall (fun _ a => xBm a) 1 b s codex_1843 := And.intro mobx_743 mobx_no
theorem mocodex_1844 (b s : Nat) : xall (fun _ a => xBm a) 2 b s codex_1844 := And.intro (mocodex_1842 b (2 * s)) (mocodex_1843 (b + s) (2 * s))
theorem mocodex_1845 (b s : Nat) : xall (fun _ a => xBm a) 1 b s codex_1845 := And.intro mobx_487 mobx_no
theorem mocodex_1846 (b s : Nat) : xall (fun _ a => xBm a) 1 b s codex_1846 := And.intro mobx_999 mobx_no
theorem mocodex_1847 (b s : Nat) : xall (fun _ a => xBm a) 2 b s codex_1847 := And.intro (mocodex_1845 b (2 * s)) (mocodex_1846 (b + s) (2 * s))
theorem mocodex_1848 (b s : Nat) : xall (fun _ a => xBm a) 3 b s codex_1848 := And.intro (mocodex_1844 b (2 * s)) (mocodex_1847 (b + s) (2 * s))
theorem mocodex_1849 (b s : Nat) : xall (fun _ a => xBm a) 4 b s codex_1849 := And.intro (mocodex_1841 b (2 * s)) (mocodex_1848 (b + s) (2 * s))
theorem mocodex_1850 (b s : Nat) : xall (fun _ a => xBm a) 5 b s codex_1850 := And.intro (mocodex_1834 b (2 * s)) (mocodex_1849 (b + s) (2 * s))
theorem mocodex_1851 (b s : Nat) : xall (fun _ a => xBm a) 6 b s codex_1851 := And.intro (mocodex_1819 b (2 * s)) (mocodex_1850 (b + s) (2 * s))
theorem mocodex_1852 (b s : Nat) : xall (fun _ a => xBm a) 1 b s codex_1852 := And.intro mobx_23 mobx_1047
theorem mocodex_1853 (b s : Nat) : xall (fun _ a => xBm a) 1 b s codex_1853 := And.intro mobx_535 mobx_no
theorem mocodex_1854 (b s : Nat) : xall (fun _ a => xBm a) 2 b s codex_1854 := And.intro (mocodex_1852 b (2 * s)) (mocodex_1853 (b + s) (2 * s))
theorem mocodex_1855 (b s : Nat) : xall (fun _ a => xBm a) 1 b s codex_1855 := And.intro mobx_279 mobx_no
theorem mocodex_1856 (b s : Nat) : xall (fun _ a => xBm a) 1 b s codex_1856 := And.intro mobx_791 mobx_no
theorem mocodex_1857 (b s : Nat) : xall (fun _ a => xBm a) 2 b s codex_1857 := And.intro (mocodex_1855 b (2 * s)) (mocodex_1856 (b + s) (2 * s))
theorem mocodex_1858 (b s : Nat) : xall (fun _ a => xBm a) 3 b s codex_1858 := And.intro (mocodex_1854 b (2 * s)) (mocodex_1857 (b + s) (2 * s))
theorem mocodex_1859 (b s : Nat) : xall (fun _ a => xBm a) 1 b s codex_1859 := And.intro mobx_151 mobx_1175
theorem mocodex_1860 (b s : Nat) : xall (fun _ a => xBm a) 1 b s codex_1860 := And.intro mobx_663 mobx_no
theorem mocodex_1861 (b s : Nat) : xall (fun _ a => xBm a) 2 b s codex_1861 := And.intro (mocodex_1859 b (2 * s)) (mocodex_1860 (b + s) (2 * s))
theorem mocodex_1862 (b s : Nat) : xall (fun _ a => xBm a) 1 b s codex_1862 := And.intro mobx_407 mobx_no
theorem mocodex_1863 (b s : Nat) : xall (fun _ a => xBm a) 1 b s codex_1863 := And.intro mobx_919 mobx_no
theorem mocodex_1864 (b s : Nat) : xall (fun _ a => xBm a) 2 b s codex_1864 := And.intro (mocodex_1862 b (2 * s)) (mocodex_1863 (b + s) (2 * s))
theorem mocodex_1865 (b s : Nat) : xall (fun _ a => xBm a) 3 b s codex_1865 := And.intro (mocodex_1861 b (2 * s)) (mocodex_1864 (b + s) (2 * s))
theorem mocodex_1866 (b s : Nat) : xall (fun _ a => xBm a) 4 b s codex_1866 := And.intro (mocodex_1858 b (2 * s)) (mocodex_1865 (b + s) (2 * s))
theorem mocodex_1867 (b s : Nat) : xall (fun _ a => xBm a) 1 b s codex_1867 := And.intro mobx_87 mobx_1111
theorem mocodex_1868 (b s : Nat) : xall (fun _ a => xBm a) 1 b s codex_1868 := And.intro mobx_599 mobx_no
theorem mocodex_1869 (b s : Nat) : xall (fun _ a => xBm a) 2 b s codex_1869 := And.intro (mocodex_1867 b (2 * s)) (mocodex_1868 (b + s) (2 * s))
theorem mocodex_1870 (b s : Nat) : xall (fun _ a => xBm a) 1 b s codex_1870 := And.intro mobx_343 mobx_no
theorem mocodex_1871 (b s : Nat) : xall (fun _ a => xBm a) 1 b s codex_1871 := And.intro mobx_855 mobx_no
theorem mocodex_1872 (b s : Nat) : xall (fun _ a => xBm a) 2 b s codex_1872 := And.intro (mocodex_1870 b (2 * s)) (mocodex_1871 (b + s) (2 * s))
theorem mocodex_1873 (b s : Nat) : xall (fun _ a => xBm a) 3 b s codex_1873 := And.intro (mocodex_1869 b (2 * s)) (mocodex_1872 (b + s) (2 * s))
theorem mocodex_1874 (b s : Nat) : xall (fun _ a => xBm a) 1 b s codex_1874 := And.intro mobx_215 mobx_no
theorem mocodex_1875 (b s : Nat) : xall (fun _ a => xBm a) 1 b s codex_1875 := And.intro mobx_727 mobx_no
theorem mocodex_1876 (b s : Nat) : xall (fun _ a => xBm a) 2 b s codex_1876 := And.intro (mocodex_1874 b (2 * s)) (mocodex_1875 (b + s) (2 * s))
theorem mocodex_1877 (b s : Nat) : xall (fun _ a => xBm a) 1 b s codex_1877 := And.intro mobx_471 mobx_no
theorem mocodex_1878 (b s : Nat) : xall (fun _ a => xBm a) 1 b s codex_1878 := And.intro mobx_983 mobx_no
theorem mocodex_1879 (b s : Nat) : xall (fun _ a => xBm a) 2 b s codex_1879 := And.intro (mocodex_1877 b (2 * s)) (mocodex_1878 (b + s) (2 * s))
theorem mocodex_1880 (b s : Nat) : xall (fun _ a => xBm a) 3 b s codex_1880 := And.intro (mocodex_1876 b (2 * s)) (mocodex_1879 (b + s) (2 * s))
theorem mocodex_1881 (b s : Nat) : xall (fun _ a => xBm a) 4 b s codex_1881 := And.intro (mocodex_1873 b (2 * s)) (mocodex_1880 (b + s) (2 * s))
theorem mocodex_1882 (b s : Nat) : xall (fun _ a => xBm a) 5 b s codex_1882 := And.intro (mocodex_1866 b (2 * s)) (mocodex_1881 (b + s) (2 * s))
theorem mocodex_1883 (b s : Nat) : xall (fun _ a => xBm a) 1 b s codex_1883 := And.intro mobx_55 mobx_1079
theorem mocodex_1884 (b s : Nat) : xall (fun _ a => xBm a) 1 b s codex_1884 := And.intro mobx_567 mobx_no
theorem mocodex_1885 (b s : Nat) : xall (fun _ a => xBm a) 2 b s codex_1885 := And.intro (mocodex_1883 b (2 * s)) (mocodex_1884 (b + s) (2 * s))
theorem mocodex_1886 (b s : Nat) : xall (fun _ a => xBm a) 1 b s codex_1886 := And.intro mobx_311 mobx_no
theorem mocodex_1887 (b s : Nat) : xall (fun _ a => xBm a) 1 b s codex_1887 := And.intro mobx_823 mobx_no
theorem mocodex_1888 (b s : Nat) : xall (fun _ a => xBm a) 2 b s codex_1888 := And.intro (mocodex_1886 b (2 * s)) (mocodex_1887 (b + s) (2 * s))
theorem mocodex_1889 (b s : Nat) : xall (fun _ a => xBm a) 3 b s codex_1889 := And.intro (mocodex_1885 b (2 * s)) (mocodex_1888 (b + s) (2 * s))
theorem mocodex_1890 (b s : Nat) : xall (fun _ a => xBm a) 1 b s codex_1890 := And.intro mobx_183 mobx_no
theorem mocodex_1891 (b s : Nat) : xall (fun _ a => xBm a) 1 b s codex_1891 := And.intro mobx_695 mobx_no
theorem mocodex_1892 (b s : Nat) : xall (fun _ a => xBm a) 2 b s codex_1892 := And.intro (mocodex_1890 b (2 * s)) (mocodex_1891 (b + s) (2 * s))
theorem mocodex_1893 (b s : Nat) : xall (fun _ a => xBm a) 1 b s codex_1893 := And.intro mobx_439 mobx_no
theorem mocodex_1894 (b s : Nat) : xall (fun _ a => xBm a) 1 b s codex_1894 := And.intro mobx_951 mobx_no
theorem mocodex_1895 (b s : Nat) : xall (fun _ a => xBm a) 2 b s codex_1895 := And.intro (mocodex_1893 b (2 * s)) (mocodex_1894 (b + s) (2 * s))
theorem mocodex_1896 (b s : Nat) : xall (fun _ a => xBm a) 3 b s codex_1896 := And.intro (mocodex_1892 b (2 * s)) (mocodex_1895 (b + s) (2 * s))
theorem mocodex_1897 (b s : Nat) : xall (fun _ a => xBm a) 4 b s codex_1897 := And.intro (mocodex_1889 b (2 * s)) (mocodex_1896 (b + s) (2 * s))
theorem mocodex_1898 (b s : Nat) : xall (fun _ a => xBm a) 1 b s codex_1898 := And.intro mobx_119 mobx_1143
theorem mocodex_1899 (b s : Nat) : xall (fun _ a => xBm a) 1 b s codex_1899 := And.intro mobx_631 mobx_no
theorem mocodex_1900 (b s : Nat) : xall (fun _ a => xBm a) 2 b s codex_1900 := And.intro (mocodex_1898 b (2 * s)) (mocodex_1899 (b + s) (2 * s))
theorem mocodex_1901 (b s : Nat) : xall (fun _ a => xBm a) 1 b s codex_1901 := And.intro mobx_375 mobx_no
theorem mocodex_1902 (b s : Nat) : xall (fun _ a => xBm a) 1 b s codex_1902 := And.intro mobx_887 mobx_no
theorem mocodex_1903 (b s : Nat) : xall (fun _ a => xBm a) 2 b s codex_1903 := And.intro (mocodex_1901 b (2 * s)) (mocodex_1902 (b + s) (2 * s))
theorem mocodex_1904 (b s : Nat) : xall (fun _ a => xBm a) 3 b s codex_1904 := And.intro (mocodex_1900 b (2 * s)) (mocodex_1903 (b + s) (2 * s))
theorem mocodex_1905 (b s : Nat) : xall (fun _ a => xBm a) 1 b s codex_1905 := And.intro mobx_247 mobx_no
theorem mocodex_1906 (b s : Nat) : xall (fun _ a => xBm a) 1 b s codex_1906 := And.intro mobx_759 mobx_no
theorem mocodex_1907 (b s : Nat) : xall (fun _ a => xBm a) 2 b s codex_1907 := And.intro (mocodex_1905 b (2 * s)) (mocodex_1906 (b + s) (2 * s))
theorem mocodex_1908 (b s : Nat) : xall (fun _ a => xBm a) 1 b s codex_1908 := And.intro mobx_503 mobx_no
theorem mocodex_1909 (b s : Nat) : xall (fun _ a => xBm a) 1 b s codex_1909 := And.intro mobx_1015 mobx_no
theorem mocodex_1910 (b s : Nat) : xall (fun _ a => xBm a) 2 b s codex_1910 := And.intro (mocodex_1908 b (2 * s)) (mocodex_1909 (b + s) (2 * s))
theorem mocodex_1911 (b s : Nat) : xall (fun _ a => xBm a) 3 b s codex_1911 := And.intro (mocodex_1907 b (2 * s)) (mocodex_1910 (b + s) (2 * s))
theorem mocodex_1912 (b s : Nat) : xall (fun _ a => xBm a) 4 b s codex_1912 := And.intro (mocodex_1904 b (2 * s)) (mocodex_1911 (b + s) (2 * s))
theorem mocodex_1913 (b s : Nat) : xall (fun _ a => xBm a) 5 b s codex_1913 := And.intro (mocodex_1897 b (2 * s)) (mocodex_1912 (b + s) (2 * s))
theorem mocodex_1914 (b s : Nat) : xall (fun _ a => xBm a) 6 b s codex_1914 := And.intro (mocodex_1882 b (2 * s)) (mocodex_1913 (b + s) (2 * s))
theorem mocodex_1915 (b s : Nat) : xall (fun _ a => xBm a) 7 b s codex_1915 := And.intro (mocodex_1851 b (2 * s)) (mocodex_1914 (b + s) (2 * s))
theorem mocodex_1916 (b s : Nat) : xall (fun _ a => xBm a) 1 b s codex_1916 := And.intro mobx_15 mobx_1039
theorem mocodex_1917 (b s : Nat) : xall (fun _ a => xBm a) 1 b s codex_1917 := And.intro mobx_527 mobx_no
theorem mocodex_1918 (b s : Nat) : xall (fun _ a => xBm a) 2 b s codex_1918 := And.intro (mocodex_1916 b (2 * s)) (mocodex_1917 (b + s) (2 * s))
theorem mocodex_1919 (b s : Nat) : xall (fun _ a => xBm a) 1 b s codex_1919 := And.intro mobx_271 mobx_no
theorem mocodex_1920 (b s : Nat) : xall (fun _ a => xBm a) 1 b s codex_1920 := And.intro mobx_783 mobx_no
theorem mocodex_1921 (b s : Nat) : xall (fun _ a => xBm a) 2 b s codex_1921 := And.intro (mocodex_1919 b (2 * s)) (mocodex_1920 (b + s) (2 * s))
theorem mocodex_1922 (b s : Nat) : xall (fun _ a => xBm a) 3 b s codex_1922 := And.intro (mocodex_1918 b (2 * s)) (mocodex_1921 (b + s) (2 * s))
theorem mocodex_1923 (b s : Nat) : xall (fun _ a => xBm a) 1 b s codex_1923 := And.intro mobx_143 mobx_1167
theorem mocodex_1924 (b s : Nat) : xall (fun _ a => xBm a) 1 b s codex_1924 := And.intro mobx_655 mobx_no
theorem mocodex_1925 (b s : Nat) : xall (fun _ a => xBm a) 2 b s codex_1925 := And.intro (mocodex_1923 b (2 * s)) (mocodex_1924 (b + s) (2 * s))
theorem mocodex_1926 (b s : Nat) : xall (fun _ a => xBm a) 1 b s codex_1926 := And.intro mobx_399 mobx_no
theorem mocodex_1927 (b s : Nat) : xall (fun _ a => xBm a) 1 b s codex_1927 := And.intro mobx_911 mobx_no
theorem mocodex_1928 (b s : Nat) : xall (fun _ a => xBm a) 2 b s codex_1928 := And.intro (mocodex_1926 b (2 * s)) (mocodex_1927 (b + s) (2 * s))
theorem mocodex_1929 (b s : Nat) : xall (fun _ a => xBm a) 3 b s codex_1929 := And.intro (mocodex_1925 b (2 * s)) (mocodex_1928 (b + s) (2 * s))
theorem mocodex_1930 (b s : Nat) : xall (fun _ a => xBm a) 4 b s codex_1930 := And.intro (mocodex_1922 b (2 * s)) (mocodex_1929 (b + s) (2 * s))
theorem mocodex_1931 (b s : Nat) : xall (fun _ a => xBm a) 1 b s codex_1931 := And.intro mobx_79 mobx_1103
theorem mocodex_1932 (b s : Nat) : xall (fun _ a => xBm a) 1 b s codex_1932 := And.intro mobx_591 mobx_no
theorem mocodex_1933 (b s : Nat) : xall (fun _ a => xBm a) 2 b s codex_1933 := And.intro (mocodex_1931 b (2 * s)) (mocodex_1932 (b + s) (2 * s))
theorem mocodex_1934 (b s : Nat) : xall (fun _ a => xBm a) 1 b s codex_1934 := And.intro mobx_335 mobx_no
theorem mocodex_1935 (b s : Nat) : xall (fun _ a => xBm a) 1 b s codex_1935 := And.intro mobx_847 mobx_no
theorem mocodex_1936 (b s : Nat) : xall (fun _ a => xBm a) 2 b s codex_1936 := And.intro (mocodex_1934 b (2 * s)) (mocodex_1935 (b + s) (2 * s))
theorem mocodex_1937 (b s : Nat) : xall (fun _ a => xBm a) 3 b s codex_1937 := And.intro (mocodex_1933 b (2 * s)) (mocodex_1936 (b + s) (2 * s))
theorem mocodex_1938 (b s : Nat) : xall (fun _ a => xBm a) 1 b s codex_1938 := And.intro mobx_207 mobx_no
theorem mocodex_1939 (b s : Nat) : xall (fun _ a => xBm a) 1 b s codex_1939 := And.intro mobx_719 mobx_no
theorem mocodex_1940 (b s : Nat) : xall (fun _ a => xBm a) 2 b s codex_1940 := And.intro (mocodex_1938 b (2 * s)) (mocodex_1939 (b + s) (2 * s))
theorem mocodex_1941 (b s : Nat) : xall (fun _ a => xBm a) 1 b s codex_1941 := And.intro mobx_463 mobx_no
theorem mocodex_1942 (b s : Nat) : xall (fun _ a => xBm a) 1 b s codex_1942 := And.intro mobx_975 mobx_no
theorem mocodex_1943 (b s : Nat) : xall (fun _ a => xBm a) 2 b s codex_1943 := And.intro (mocodex_1941 b (2 * s)) (mocodex_1942 (b + s) (2 * s))
theorem mocodex_1944 (b s : Nat) : xall (fun _ a => xBm a) 3 b s codex_1944 := And.intro (mocodex_1940 b (2 * s)) (mocodex_1943 (b + s) (2 * s))
theorem mocodex_1945 (b s : Nat) : xall (fun _ a => xBm a) 4 b s codex_1945 := And.intro (mocodex_1937 b (2 * s)) (mocodex_1944 (b + s) (2 * s))
theorem mocodex_1946 (b s : Nat) : xall (fun _ a => xBm a) 5 b s codex_1946 := And.intro (mocodex_1930 b (2 * s)) (mocodex_1945 (b + s) (2 * s))
theorem mocodex_1947 (b s : Nat) : xall (fun _ a => xBm a) 1 b s codex_1947 := And.intro mobx_47 mobx_1071
theorem mocodex_1948 (b s : Nat) : xall (fun _ a => xBm a) 1 b s codex_1948 := And.intro mobx_559 mobx_no
theorem mocodex_1949 (b s : Nat) : xall (fun _ a => xBm a) 2 b s codex_1949 := And.intro (mocodex_1947 b (2 * s)) (mocodex_1948 (b + s) (2 * s))
theorem mocodex_1950 (b s : Nat) : xall (fun _ a => xBm a) 1 b s codex_1950 := And.intro mobx_303 mobx_no
theorem mocodex_1951 (b s : Nat) : xall (fun _ a => xBm a) 1 b s codex_1951 := And.intro mobx_815 mobx_no
theorem mocodex_1952 (b s : Nat) : xall (fun _ a => xBm a) 2 b s codex_1952 := And.intro (mocodex_1950 b (2 * s)) (mocodex_1951 (b + s) (2 * s))
theorem mocodex_1953 (b s : Nat) : xall (fun _ a => xBm a) 3 b s codex_1953 := And.intro (mocodex_1949 b (2 * s)) (mocodex_1952 (b + s) (2 * s))
theorem mocodex_1954 (b s : Nat) : xall (fun _ a => xBm a) 1 b s codex_1954 := And.intro mobx_175 mobx_no
theorem mocodex_1955 (b s : Nat) : xall (fun _ a => xBm a) 1 b s codex_1955 := And.intro mobx_687 mobx_no
theorem mocodex_1956 (b s : Nat) : xall (fun _ a => xBm a) 2 b s codex_1956 := And.intro (mocodex_1954 b (2 * s)) (mocodex_1955 (b + s) (2 * s))
theorem mocodex_1957 (b s : Nat) : xall (fun _ a => xBm a) 1 b s codex_1957 := And.intro mobx_431 mobx_no
theorem mocodex_1958 (b s : Nat) : xall (fun _ a => xBm a) 1 b s codex_1958 := And.intro mobx_943 mobx_no
theorem mocodex_1959 (b s : Nat) : xall (fun _ a => xBm a) 2 b s codex_1959 := And.intro (mocodex_1957 b (2 * s)) (mocodex_1958 (b + s) (2 * s))
theorem mocodex_1960 (b s : Nat) : xall (fun _ a => xBm a) 3 b s codex_1960 := And.intro (mocodex_1956 b (2 * s)) (mocodex_1959 (b + s) (2 * s))
theorem mocodex_1961 (b s : Nat) : xall (fun _ a => xBm a) 4 b s codex_1961 := And.intro (mocodex_1953 b (2 * s)) (mocodex_1960 (b + s) (2 * s))
theorem mocodex_1962 (b s : Nat) : xall (fun _ a => xBm a) 1 b s codex_1962 := And.intro mobx_111 mobx_1135
theorem mocodex_1963 (b s : Nat) : xall (fun _ a => xBm a) 1 b s codex_1963 := And.intro mobx_623 mobx_no
theorem mocodex_1964 (b s : Nat) : xall (fun _ a => xBm a) 2 b s codex_1964 := And.intro (mocodex_1962 b (2 * s)) (mocodex_1963 (b + s) (2 * s))
theorem mocodex_1965 (b s : Nat) : xall (fun _ a => xBm a) 1 b s codex_1965 := And.intro mobx_367 mobx_no
theorem mocodex_1966 (b s : Nat) : xall (fun _ a => xBm a) 1 b s codex_1966 := And.intro mobx_879 mobx_no
theorem mocodex_1967 (b s : Nat) : xall (fun _ a => xBm a) 2 b s codex_1967 := And.intro (mocodex_1965 b (2 * s)) (mocodex_1966 (b + s) (2 * s))
theorem mocodex_1968 (b s : Nat) : xall (fun _ a => xBm a) 3 b s codex_1968 := And.intro (mocodex_1964 b (2 * s)) (mocodex_1967 (b + s) (2 * s))
theorem mocodex_1969 (b s : Nat) : xall (fun _ a => xBm a) 1 b s codex_1969 := And.intro mobx_239 mobx_no
theorem mocodex_1970 (b s : Nat) : xall (fun _ a => xBm a) 1 b s codex_1970 := And.intro mobx_751 mobx_no
theorem mocodex_1971 (b s : Nat) : xall (fun _ a => xBm a) 2 b s codex_1971 := And.intro (mocodex_1969 b (2 * s)) (mocodex_1970 (b + s) (2 * s))
theorem mocodex_1972 (b s : Nat) : xall (fun _ a => xBm a) 1 b s codex_1972 := And.intro mobx_495 mobx_no
theorem mocodex_1973 (b s : Nat) : xall (fun _ a => xBm a) 1 b s codex_1973 := And.intro mobx_1007 mobx_no
theorem mocodex_1974 (b s : Nat) : xall (fun _ a => xBm a) 2 b s codex_1974 := And.intro (mocodex_1972 b (2 * s)) (mocodex_1973 (b + s) (2 * s))
theorem mocodex_1975 (b s : Nat) : xall (fun _ a => xBm a) 3 b s codex_1975 := And.intro (mocodex_1971 b (2 * s)) (mocodex_1974 (b + s) (2 * s))
theorem mocodex_1976 (b s : Nat) : xall (fun _ a => xBm a) 4 b s codex_1976 := And.intro (mocodex_1968 b (2 * s)) (mocodex_1975 (b + s) (2 * s))
theorem mocodex_1977 (b s : Nat) : xall (fun _ a => xBm a) 5 b s codex_1977 := And.intro (mocodex_1961 b (2 * s)) (mocodex_1976 (b + s) (2 * s))
theorem mocodex_1978 (b s : Nat) : xall (fun _ a => xBm a) 6 b s codex_1978 := And.intro (mocodex_1946 b (2 * s)) (mocodex_1977 (b + s) (2 * s))
theorem mocodex_1979 (b s : Nat) : xall (fun _ a => xBm a) 1 b s codex_1979 := And.intro mobx_31 mobx_1055
theorem mocodex_1980 (b s : Nat) : xall (fun _ a => xBm a) 1 b s codex_1980 := And.intro mobx_543 mobx_no
theorem mocodex_1981 (b s : Nat) : xall (fun _ a => xBm a) 2 b s codex_1981 := And.intro (mocodex_1979 b (2 * s)) (mocodex_1980 (b + s) (2 * s))
theorem mocodex_1982 (b s : Nat) : xall (fun _ a => xBm a) 1 b s codex_1982 := And.intro mobx_287 mobx_no
theorem mocodex_1983 (b s : Nat) : xall (fun _ a => xBm a) 1 b s codex_1983 := And.intro mobx_799 mobx_no
theorem mocodex_1984 (b s : Nat) : xall (fun _ a => xBm a) 2 b s codex_1984 := And.intro (mocodex_1982 b (2 * s)) (mocodex_1983 (b + s) (2 * s))
theorem mocodex_1985 (b s : Nat) : xall (fun _ a => xBm a) 3 b s codex_1985 := And.intro (mocodex_1981 b (2 * s)) (mocodex_1984 (b + s) (2 * s))
theorem mocodex_1986 (b s : Nat) : xall (fun _ a => xBm a) 1 b s codex_1986 := And.intro mobx_159 mobx_1183
theorem mocodex_1987 (b s : Nat) : xall (fun _ a => xBm a) 1 b s codex_1987 := And.intro mobx_671 mobx_no
theorem mocodex_1988 (b s : Nat) : xall (fun _ a => xBm a) 2 b s codex_1988 := And.intro (mocodex_1986 b (2 * s)) (mocodex_1987 (b + s) (2 * s))
theorem mocodex_1989 (b s : Nat) : xall (fun _ a => xBm a) 1 b s codex_1989 := And.intro mobx_415 mobx_no
theorem mocodex_1990 (b s : Nat) : xall (fun _ a => xBm a) 1 b s codex_1990 := And.intro mobx_927 mobx_no
theorem mocodex_1991 (b s : Nat) : xall (fun _ a => xBm a) 2 b s codex_1991 := And.intro (mocodex_1989 b (2 * s)) (mocodex_1990 (b + s) (2 * s))
theorem mocodex_1992 (b s : Nat) : xall (fun _ a => xBm a) 3 b s codex_1992 := And.intro (mocodex_1988 b (2 * s)) (mocodex_1991 (b + s) (2 * s))
theorem mocodex_1993 (b s : Nat) : xall (fun _ a => xBm a) 4 b s codex_1993 := And.intro (mocodex_1985 b (2 * s)) (mocodex_1992 (b + s) (2 * s))
theorem mocodex_1994 (b s : Nat) : xall (fun _ a => xBm a) 1 b s codex_1994 := And.intro mobx_95 mobx_1119
theorem mocodex_1995 (b s : Nat) : xall (fun _ a => xBm a) 1 b s codex_1995 := And.intro mobx_607 mobx_no
theorem mocodex_1996 (b s : Nat) : xall (fun _ a => xBm a) 2 b s codex_1996 := And.intro (mocodex_1994 b (2 * s)) (mocodex_1995 (b + s) (2 * s))
theorem mocodex_1997 (b s : Nat) : xall (fun _ a => xBm a) 1 b s codex_1997 := And.intro mobx_351 mobx_no
theorem mocodex_1998 (b s : Nat) : xall (fun _ a => xBm a) 1 b s codex_1998 := And.intro mobx_863 mobx_no
theorem mocodex_1999 (b s : Nat) : xall (fun _ a => xBm a) 2 b s codex_1999 := And.intro (mocodex_1997 b (2 * s)) (mocodex_1998 (b + s) (2 * s))
theorem mocodex_2000 (b s : Nat) : xall (fun _ a => xBm a) 3 b s codex_2000 := And.intro (mocodex_1996 b (2 * s)) (mocodex_1999 (b + s) (2 * s))
theorem mocodex_2001 (b s : Nat) : xall (fun _ a => xBm a) 1 b s codex_2001 := And.intro mobx_223 mobx_no
theorem mocodex_2002 (b s : Nat) : xall (fun _ a => xBm a) 1 b s codex_2002 := And.intro mobx_735 mobx_no
theorem mocodex_2003 (b s : Nat) : xall (fun _ a => xBm a) 2 b s codex_2003 := And.intro (mocodex_2001 b (2 * s)) (mocodex_2002 (b + s) (2 * s))
theorem mocodex_2004 (b s : Nat) : xall (fun _ a => xBm a) 1 b s codex_2004 := And.intro mobx_479 mobx_no
theorem mocodex_2005 (b s : Nat) : xall (fun _ a => xBm a) 1 b s codex_2005 := And.intro mobx_991 mobx_no
theorem mocodex_2006 (b s : Nat) : xall (fun _ a => xBm a) 2 b s codex_2006 := And.intro (mocodex_2004 b (2 * s)) (mocodex_2005 (b + s) (2 * s))
theorem mocodex_2007 (b s : Nat) : xall (fun _ a => xBm a) 3 b s codex_2007 := And.intro (mocodex_2003 b (2 * s)) (mocodex_2006 (b + s) (2 * s))
theorem mocodex_2008 (b s : Nat) : xall (fun _ a => xBm a) 4 b s codex_2008 := And.intro (mocodex_2000 b (2 * s)) (mocodex_2007 (b + s) (2 * s))
theorem mocodex_2009 (b s : Nat) : xall (fun _ a => xBm a) 5 b s codex_2009 := And.intro (mocodex_1993 b (2 * s)) (mocodex_2008 (b + s) (2 * s))
theorem mocodex_2010 (b s : Nat) : xall (fun _ a => xBm a) 1 b s codex_2010 := And.intro mobx_63 mobx_1087
theorem mocodex_2011 (b s : Nat) : xall (fun _ a => xBm a) 1 b s codex_2011 := And.intro mobx_575 mobx_no
theorem mocodex_2012 (b s : Nat) : xall (fun _ a => xBm a) 2 b s codex_2012 := And.intro (mocodex_2010 b (2 * s)) (mocodex_2011 (b + s) (2 * s))
theorem mocodex_2013 (b s : Nat) : xall (fun _ a => xBm a) 1 b s codex_2013 := And.intro mobx_319 mobx_no
theorem mocodex_2014 (b s : Nat) : xall (fun _ a => xBm a) 1 b s codex_2014 := And.intro mobx_831 mobx_no
theorem mocodex_2015 (b s : Nat) : xall (fun _ a => xBm a) 2 b s codex_2015 := And.intro (mocodex_2013 b (2 * s)) (mocodex_2014 (b + s) (2 * s))
theorem mocodex_2016 (b s : Nat) : xall (fun _ a => xBm a) 3 b s codex_2016 := And.intro (mocodex_2012 b (2 * s)) (mocodex_2015 (b + s) (2 * s))
theorem mocodex_2017 (b s : Nat) : xall (fun _ a => xBm a) 1 b s codex_2017 := And.intro mobx_191 mobx_no
theorem mocodex_2018 (b s : Nat) : xall (fun _ a => xBm a) 1 b s codex_2018 := And.intro mobx_703 mobx_no
theorem mocodex_2019 (b s : Nat) : xall (fun _ a => xBm a) 2 b s codex_2019 := And.intro (mocodex_2017 b (2 * s)) (mocodex_2018 (b + s) (2 * s))
theorem mocodex_2020 (b s : Nat) : xall (fun _ a => xBm a) 1 b s codex_2020 := And.intro mobx_447 mobx_no
theorem mocodex_2021 (b s : Nat) : xall (fun _ a => xBm a) 1 b s codex_2021 := And.intro mobx_959 mobx_no
theorem mocodex_2022 (b s : Nat) : xall (fun _ a => xBm a) 2 b s codex_2022 := And.intro (mocodex_2020 b (2 * s)) (mocodex_2021 (b + s) (2 * s))
theorem mocodex_2023 (b s : Nat) : xall (fun _ a => xBm a) 3 b s codex_2023 := And.intro (mocodex_2019 b (2 * s)) (mocodex_2022 (b + s) (2 * s))
theorem mocodex_2024 (b s : Nat) : xall (fun _ a => xBm a) 4 b s codex_2024 := And.intro (mocodex_2016 b (2 * s)) (mocodex_2023 (b + s) (2 * s))
theorem mocodex_2025 (b s : Nat) : xall (fun _ a => xBm a) 1 b s codex_2025 := And.intro mobx_127 mobx_1151
theorem mocodex_2026 (b s : Nat) : xall (fun _ a => xBm a) 1 b s codex_2026 := And.intro mobx_639 mobx_no
theorem mocodex_2027 (b s : Nat) : xall (fun _ a => xBm a) 2 b s codex_2027 := And.intro (mocodex_2025 b (2 * s)) (mocodex_2026 (b + s) (2 * s))
theorem mocodex_2028 (b s : Nat) : xall (fun _ a => xBm a) 1 b s codex_2028 := And.intro mobx_383 mobx_no
theorem mocodex_2029 (b s : Nat) : xall (fun _ a => xBm a) 1 b s codex_2029 := And.intro mobx_895 mobx_no
theorem mocodex_2030 (b s : Nat) : xall (fun _ a => xBm a) 2 b s codex_2030 := And.intro (mocodex_2028 b (2 * s)) (mocodex_2029 (b + s) (2 * s))
theorem mocodex_2031 (b s : Nat) : xall (fun _ a => xBm a) 3 b s codex_2031 := And.intro (mocodex_2027 b (2 * s)) (mocodex_2030 (b + s) (2 * s))
theorem mocodex_2032 (b s : Nat) : xall (fun _ a => xBm a) 1 b s codex_2032 := And.intro mobx_255 mobx_no
theorem mocodex_2033 (b s : Nat) : xall (fun _ a => xBm a) 1 b s codex_2033 := And.intro mobx_767 mobx_no
theorem mocodex_2034 (b s : Nat) : xall (fun _ a => xBm a) 2 b s codex_2034 := And.intro (mocodex_2032 b (2 * s)) (mocodex_2033 (b + s) (2 * s))
theorem mocodex_2035 (b s : Nat) : xall (fun _ a => xBm a) 1 b s codex_2035 := And.intro mobx_511 mobx_no
theorem mocodex_2036 (b s : Nat) : xall (fun _ a => xBm a) 1 b s codex_2036 := And.intro mobx_1023 mobx_no
theorem mocodex_2037 (b s : Nat) : xall (fun _ a => xBm a) 2 b s codex_2037 := And.intro (mocodex_2035 b (2 * s)) (mocodex_2036 (b + s) (2 * s))
theorem mocodex_2038 (b s : Nat) : xall (fun _ a => xBm a) 3 b s codex_2038 := And.intro (mocodex_2034 b (2 * s)) (mocodex_2037 (b + s) (2 * s))
theorem mocodex_2039 (b s : Nat) : xall (fun _ a => xBm a) 4 b s codex_2039 := And.intro (mocodex_2031 b (2 * s)) (mocodex_2038 (b + s) (2 * s))
theorem mocodex_2040 (b s : Nat) : xall (fun _ a => xBm a) 5 b s codex_2040 := And.intro (mocodex_2024 b (2 * s)) (mocodex_2039 (b + s) (2 * s))
theorem mocodex_2041 (b s : Nat) : xall (fun _ a => xBm a) 6 b s codex_2041 := And.intro (mocodex_2009 b (2 * s)) (mocodex_2040 (b + s) (2 * s))
theorem mocodex_2042 (b s : Nat) : xall (fun _ a => xBm a) 7 b s codex_2042 := And.intro (mocodex_1978 b (2 * s)) (mocodex_2041 (b + s) (2 * s))
theorem mocodex_2043 (b s : Nat) : xall (fun _ a => xBm a) 8 b s codex_2043 := And.intro (mocodex_1915 b (2 * s)) (mocodex_2042 (b + s) (2 * s))
theorem mocodex_2044 (b s : Nat) : xall (fun _ a => xBm a) 9 b s codex_2044 := And.intro (mocodex_1788 b (2 * s)) (mocodex_2043 (b + s) (2 * s))
theorem mocodex_2045 (b s : Nat) : xall (fun _ a => xBm a) 10 b s codex_2045 := And.intro (mocodex_1533 b (2 * s)) (mocodex_2044 (b + s) (2 * s))
theorem mocodex (b s : Nat) : xall (fun _ a => xBm a) 11 b s codex := And.intro (mocodex_1022 b (2 * s)) (mocodex_2045 (b + s) (2 * s))
theorem moallx : xCm codex := fun b => xall_one 11 0 1 codex (mocodex 0 1) b
