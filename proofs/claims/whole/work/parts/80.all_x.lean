/-! All blocks together: the machine is sound. -/
section
variable {l : Launch} {Dg : va_G} {tys : List (ClassId × FieldType)} {cA : Nat → Nat} {base : Nat} {adS : Nat → Nat} {Ex : State → Heap → Prop}

theorem okzx (b : Nat) : xOK l Dg clx tys cA flx ftx base adS GWx xyx xcx xnx xrx Ex codex bmx bpx b bx_no := fun n dl fs fin hI => s_no
theorem anx_0 (Hy : Hyx tys cA base adS Ex) : xall (fun b t => xOK l Dg clx tys cA flx ftx base adS GWx xyx xcx xnx xrx Ex codex bmx bpx b t) 1 0 1024 codex_0 :=
  And.intro (okx_0 Hy) (okx_1024 Hy)
theorem anx_1 (Hy : Hyx tys cA base adS Ex) : xall (fun b t => xOK l Dg clx tys cA flx ftx base adS GWx xyx xcx xnx xrx Ex codex bmx bpx b t) 1 512 1024 codex_1 :=
  And.intro (okx_512 Hy) (okzx 1536)
theorem anx_2 (Hy : Hyx tys cA base adS Ex) : xall (fun b t => xOK l Dg clx tys cA flx ftx base adS GWx xyx xcx xnx xrx Ex codex bmx bpx b t) 2 0 512 codex_2 :=
  And.intro (anx_0 Hy) (anx_1 Hy)
theorem anx_3 (Hy : Hyx tys cA base adS Ex) : xall (fun b t => xOK l Dg clx tys cA flx ftx base adS GWx xyx xcx xnx xrx Ex codex bmx bpx b t) 1 256 1024 codex_3 :=
  And.intro (okx_256 Hy) (okzx 1280)
theorem anx_4 (Hy : Hyx tys cA base adS Ex) : xall (fun b t => xOK l Dg clx tys cA flx ftx base adS GWx xyx xcx xnx xrx Ex codex bmx bpx b t) 1 768 1024 codex_4 :=
  And.intro (okx_768 Hy) (okzx 1792)
theorem anx_5 (Hy : Hyx tys cA base adS Ex) : xall (fun b t => xOK l Dg clx tys cA flx ftx base adS GWx xyx xcx xnx xrx Ex codex bmx bpx b t) 2 256 512 codex_5 :=
  And.intro (anx_3 Hy) (anx_4 Hy)
theorem anx_6 (Hy : Hyx tys cA base adS Ex) : xall (fun b t => xOK l Dg clx tys cA flx ftx base adS GWx xyx xcx xnx xrx Ex codex bmx bpx b t) 3 0 256 codex_6 :=
  And.intro (anx_2 Hy) (anx_5 Hy)
theorem anx_7 (Hy : Hyx tys cA base adS Ex) : xall (fun b t => xOK l Dg clx tys cA flx ftx base adS GWx xyx xcx xnx xrx Ex codex bmx bpx b t) 1 128 1024 codex_7 :=
  And.intro (okx_128 Hy) (okx_1152 Hy)
theorem anx_8 (Hy : Hyx tys cA base adS Ex) : xall (fun b t => xOK l Dg clx tys cA flx ftx base adS GWx xyx xcx xnx xrx Ex codex bmx bpx b t) 1 640 1024 codex_8 :=
  And.intro (okx_640 Hy) (okzx 1664)
theorem anx_9 (Hy : Hyx tys cA base adS Ex) : xall (fun b t => xOK l Dg clx tys cA flx ftx base adS GWx xyx xcx xnx xrx Ex codex bmx bpx b t) 2 128 512 codex_9 :=
  And.intro (anx_7 Hy) (anx_8 Hy)
theorem anx_10 (Hy : Hyx tys cA base adS Ex) : xall (fun b t => xOK l Dg clx tys cA flx ftx base adS GWx xyx xcx xnx xrx Ex codex bmx bpx b t) 1 384 1024 codex_10 :=
  And.intro (okx_384 Hy) (okzx 1408)
theorem anx_11 (Hy : Hyx tys cA base adS Ex) : xall (fun b t => xOK l Dg clx tys cA flx ftx base adS GWx xyx xcx xnx xrx Ex codex bmx bpx b t) 1 896 1024 codex_11 :=
  And.intro (okx_896 Hy) (okzx 1920)
theorem anx_12 (Hy : Hyx tys cA base adS Ex) : xall (fun b t => xOK l Dg clx tys cA flx ftx base adS GWx xyx xcx xnx xrx Ex codex bmx bpx b t) 2 384 512 codex_12 :=
  And.intro (anx_10 Hy) (anx_11 Hy)
theorem anx_13 (Hy : Hyx tys cA base adS Ex) : xall (fun b t => xOK l Dg clx tys cA flx ftx base adS GWx xyx xcx xnx xrx Ex codex bmx bpx b t) 3 128 256 codex_13 :=
  And.intro (anx_9 Hy) (anx_12 Hy)
theorem anx_14 (Hy : Hyx tys cA base adS Ex) : xall (fun b t => xOK l Dg clx tys cA flx ftx base adS GWx xyx xcx xnx xrx Ex codex bmx bpx b t) 4 0 128 codex_14 :=
  And.intro (anx_6 Hy) (anx_13 Hy)
theorem anx_15 (Hy : Hyx tys cA base adS Ex) : xall (fun b t => xOK l Dg clx tys cA flx ftx base adS GWx xyx xcx xnx xrx Ex codex bmx bpx b t) 1 64 1024 codex_15 :=
  And.intro (okx_64 Hy) (okx_1088 Hy)
theorem anx_16 (Hy : Hyx tys cA base adS Ex) : xall (fun b t => xOK l Dg clx tys cA flx ftx base adS GWx xyx xcx xnx xrx Ex codex bmx bpx b t) 1 576 1024 codex_16 :=
  And.intro (okx_576 Hy) (okzx 1600)
theorem anx_17 (Hy : Hyx tys cA base adS Ex) : xall (fun b t => xOK l Dg clx tys cA flx ftx base adS GWx xyx xcx xnx xrx Ex codex bmx bpx b t) 2 64 512 codex_17 :=
  And.intro (anx_15 Hy) (anx_16 Hy)
theorem anx_18 (Hy : Hyx tys cA base adS Ex) : xall (fun b t => xOK l Dg clx tys cA flx ftx base adS GWx xyx xcx xnx xrx Ex codex bmx bpx b t) 1 320 1024 codex_18 :=
  And.intro (okx_320 Hy) (okzx 1344)
theorem anx_19 (Hy : Hyx tys cA base adS Ex) : xall (fun b t => xOK l Dg clx tys cA flx ftx base adS GWx xyx xcx xnx xrx Ex codex bmx bpx b t) 1 832 1024 codex_19 :=
  And.intro (okx_832 Hy) (okzx 1856)
theorem anx_20 (Hy : Hyx tys cA base adS Ex) : xall (fun b t => xOK l Dg clx tys cA flx ftx base adS GWx xyx xcx xnx xrx Ex codex bmx bpx b t) 2 320 512 codex_20 :=
  And.intro (anx_18 Hy) (anx_19 Hy)
theorem anx_21 (Hy : Hyx tys cA base adS Ex) : xall (fun b t => xOK l Dg clx tys cA flx ftx base adS GWx xyx xcx xnx xrx Ex codex bmx bpx b t) 3 64 256 codex_21 :=
  And.intro (anx_17 Hy) (anx_20 Hy)
theorem anx_22 (Hy : Hyx tys cA base adS Ex) : xall (fun b t => xOK l Dg clx tys cA flx ftx base adS GWx xyx xcx xnx xrx Ex codex bmx bpx b t) 1 192 1024 codex_22 :=
  And.intro (okx_192 Hy) (okzx 1216)
theorem anx_23 (Hy : Hyx tys cA base adS Ex) : xall (fun b t => xOK l Dg clx tys cA flx ftx base adS GWx xyx xcx xnx xrx Ex codex bmx bpx b t) 1 704 1024 codex_23 :=
  And.intro (okx_704 Hy) (okzx 1728)
theorem anx_24 (Hy : Hyx tys cA base adS Ex) : xall (fun b t => xOK l Dg clx tys cA flx ftx base adS GWx xyx xcx xnx xrx Ex codex bmx bpx b t) 2 192 512 codex_24 :=
  And.intro (anx_22 Hy) (anx_23 Hy)
theorem anx_25 (Hy : Hyx tys cA base adS Ex) : xall (fun b t => xOK l Dg clx tys cA flx ftx base adS GWx xyx xcx xnx xrx Ex codex bmx bpx b t) 1 448 1024 codex_25 :=
  And.intro (okx_448 Hy) (okzx 1472)
theorem anx_26 (Hy : Hyx tys cA base adS Ex) : xall (fun b t => xOK l Dg clx tys cA flx ftx base adS GWx xyx xcx xnx xrx Ex codex bmx bpx b t) 1 960 1024 codex_26 :=
  And.intro (okx_960 Hy) (okzx 1984)
theorem anx_27 (Hy : Hyx tys cA base adS Ex) : xall (fun b t => xOK l Dg clx tys cA flx ftx base adS GWx xyx xcx xnx xrx Ex codex bmx bpx b t) 2 448 512 codex_27 :=
  And.intro (anx_25 Hy) (anx_26 Hy)
theorem anx_28 (Hy : Hyx tys cA base adS Ex) : xall (fun b t => xOK l Dg clx tys cA flx ftx base adS GWx xyx xcx xnx xrx Ex codex bmx bpx b t) 3 192 256 codex_28 :=
  And.intro (anx_24 Hy) (anx_27 Hy)
theorem anx_29 (Hy : Hyx tys cA base adS Ex) : xall (fun b t => xOK l Dg clx tys cA flx ftx base adS GWx xyx xcx xnx xrx Ex codex bmx bpx b t) 4 64 128 codex_29 :=
  And.intro (anx_21 Hy) (anx_28 Hy)
theorem anx_30 (Hy : Hyx tys cA base adS Ex) : xall (fun b t => xOK l Dg clx tys cA flx ftx base adS GWx xyx xcx xnx xrx Ex codex bmx bpx b t) 5 0 64 codex_30 :=
  And.intro (anx_14 Hy) (anx_29 Hy)
theorem anx_31 (Hy : Hyx tys cA base adS Ex) : xall (fun b t => xOK l Dg clx tys cA flx ftx base adS GWx xyx xcx xnx xrx Ex codex bmx bpx b t) 1 32 1024 codex_31 :=
  And.intro (okx_32 Hy) (okx_1056 Hy)
theorem anx_32 (Hy : Hyx tys cA base adS Ex) : xall (fun b t => xOK l Dg clx tys cA flx ftx base adS GWx xyx xcx xnx xrx Ex codex bmx bpx b t) 1 544 1024 codex_32 :=
  And.intro (okx_544 Hy) (okzx 1568)
theorem anx_33 (Hy : Hyx tys cA base adS Ex) : xall (fun b t => xOK l Dg clx tys cA flx ftx base adS GWx xyx xcx xnx xrx Ex codex bmx bpx b t) 2 32 512 codex_33 :=
  And.intro (anx_31 Hy) (anx_32 Hy)
theorem anx_34 (Hy : Hyx tys cA base adS Ex) : xall (fun b t => xOK l Dg clx tys cA flx ftx base adS GWx xyx xcx xnx xrx Ex codex bmx bpx b t) 1 288 1024 codex_34 :=
  And.intro (okx_288 Hy) (okzx 1312)
theorem anx_35 (Hy : Hyx tys cA base adS Ex) : xall (fun b t => xOK l Dg clx tys cA flx ftx base adS GWx xyx xcx xnx xrx Ex codex bmx bpx b t) 1 800 1024 codex_35 :=
  And.intro (okx_800 Hy) (okzx 1824)
theorem anx_36 (Hy : Hyx tys cA base adS Ex) : xall (fun b t => xOK l Dg clx tys cA flx ftx base adS GWx xyx xcx xnx xrx Ex codex bmx bpx b t) 2 288 512 codex_36 :=
  And.intro (anx_34 Hy) (anx_35 Hy)
theorem anx_37 (Hy : Hyx tys cA base adS Ex) : xall (fun b t => xOK l Dg clx tys cA flx ftx base adS GWx xyx xcx xnx xrx Ex codex bmx bpx b t) 3 32 256 codex_37 :=
  And.intro (anx_33 Hy) (anx_36 Hy)
theorem anx_38 (Hy : Hyx tys cA base adS Ex) : xall (fun b t => xOK l Dg clx tys cA flx ftx base adS GWx xyx xcx xnx xrx Ex codex bmx bpx b t) 1 160 1024 codex_38 :=
  And.intro (okx_160 Hy) (okx_1184 Hy)
theorem anx_39 (Hy : Hyx tys cA base adS Ex) : xall (fun b t => xOK l Dg clx tys cA flx ftx base adS GWx xyx xcx xnx xrx Ex codex bmx bpx b t) 1 672 1024 codex_39 :=
  And.intro (okx_672 Hy) (okzx 1696)
theorem anx_40 (Hy : Hyx tys cA base adS Ex) : xall (fun b t => xOK l Dg clx tys cA flx ftx base adS GWx xyx xcx xnx xrx Ex codex bmx bpx b t) 2 160 512 codex_40 :=
  And.intro (anx_38 Hy) (anx_39 Hy)
theorem anx_41 (Hy : Hyx tys cA base adS Ex) : xall (fun b t => xOK l Dg clx tys cA flx ftx base adS GWx xyx xcx xnx xrx Ex codex bmx bpx b t) 1 416 1024 codex_41 :=
  And.intro (okx_416 Hy) (okzx 1440)
theorem anx_42 (Hy : Hyx tys cA base adS Ex) : xall (fun b t => xOK l Dg clx tys cA flx ftx base adS GWx xyx xcx xnx xrx Ex codex bmx bpx b t) 1 928 1024 codex_42 :=
  And.intro (okx_928 Hy) (okzx 1952)
theorem anx_43 (Hy : Hyx tys cA base adS Ex) : xall (fun b t => xOK l Dg clx tys cA flx ftx base adS GWx xyx xcx xnx xrx Ex codex bmx bpx b t) 2 416 512 codex_43 :=
  And.intro (anx_41 Hy) (anx_42 Hy)
theorem anx_44 (Hy : Hyx tys cA base adS Ex) : xall (fun b t => xOK l Dg clx tys cA flx ftx base adS GWx xyx xcx xnx xrx Ex codex bmx bpx b t) 3 160 256 codex_44 :=
  And.intro (anx_40 Hy) (anx_43 Hy)
theorem anx_45 (Hy : Hyx tys cA base adS Ex) : xall (fun b t => xOK l Dg clx tys cA flx ftx base adS GWx xyx xcx xnx xrx Ex codex bmx bpx b t) 4 32 128 codex_45 :=
  And.intro (anx_37 Hy) (anx_44 Hy)
theorem anx_46 (Hy : Hyx tys cA base adS Ex) : xall (fun b t => xOK l Dg clx tys cA flx ftx base adS GWx xyx xcx xnx xrx Ex codex bmx bpx b t) 1 96 1024 codex_46 :=
  And.intro (okx_96 Hy) (okx_1120 Hy)
theorem anx_47 (Hy : Hyx tys cA base adS Ex) : xall (fun b t => xOK l Dg clx tys cA flx ftx base adS GWx xyx xcx xnx xrx Ex codex bmx bpx b t) 1 608 1024 codex_47 :=
  And.intro (okx_608 Hy) (okzx 1632)
theorem anx_48 (Hy : Hyx tys cA base adS Ex) : xall (fun b t => xOK l Dg clx tys cA flx ftx base adS GWx xyx xcx xnx xrx Ex codex bmx bpx b t) 2 96 512 codex_48 :=
  And.intro (anx_46 Hy) (anx_47 Hy)
theorem anx_49 (Hy : Hyx tys cA base adS Ex) : xall (fun b t => xOK l Dg clx tys cA flx ftx base adS GWx xyx xcx xnx xrx Ex codex bmx bpx b t) 1 352 1024 codex_49 :=
  And.intro (okx_352 Hy) (okzx 1376)
theorem anx_50 (Hy : Hyx tys cA base adS Ex) : xall (fun b t => xOK l Dg clx tys cA flx ftx base adS GWx xyx xcx xnx xrx Ex codex bmx bpx b t) 1 864 1024 codex_50 :=
  And.intro (okx_864 Hy) (okzx 1888)
theorem anx_51 (Hy : Hyx tys cA base adS Ex) : xall (fun b t => xOK l Dg clx tys cA flx ftx base adS GWx xyx xcx xnx xrx Ex codex bmx bpx b t) 2 352 512 codex_51 :=
  And.intro (anx_49 Hy) (anx_50 Hy)
theorem anx_52 (Hy : Hyx tys cA base adS Ex) : xall (fun b t => xOK l Dg clx tys cA flx ftx base adS GWx xyx xcx xnx xrx Ex codex bmx bpx b t) 3 96 256 codex_52 :=
  And.intro (anx_48 Hy) (anx_51 Hy)
theorem anx_53 (Hy : Hyx tys cA base adS Ex) : xall (fun b t => xOK l Dg clx tys cA flx ftx base adS GWx xyx xcx xnx xrx Ex codex bmx bpx b t) 1 224 1024 codex_53 :=
  And.intro (okx_224 Hy) (okzx 1248)
theorem anx_54 (Hy : Hyx tys cA base adS Ex) : xall (fun b t => xOK l Dg clx tys cA flx ftx base adS GWx xyx xcx xnx xrx Ex codex bmx bpx b t) 1 736 1024 codex_54 :=
  And.intro (okx_736 Hy) (okzx 1760)
theorem anx_55 (Hy : Hyx tys cA base adS Ex) : xall (fun b t => xOK l Dg clx tys cA flx ftx base adS GWx xyx xcx xnx xrx Ex codex bmx bpx b t) 2 224 512 codex_55 :=
  And.intro (anx_53 Hy) (anx_54 Hy)
theorem anx_56 (Hy : Hyx tys cA base adS Ex) : xall (fun b t => xOK l Dg clx tys cA flx ftx base adS GWx xyx xcx xnx xrx Ex codex bmx bpx b t) 1 480 1024 codex_56 :=
  And.intro (okx_480 Hy) (okzx 1504)
theorem anx_57 (Hy : Hyx tys cA base adS Ex) : xall (fun b t => xOK l Dg clx tys cA flx ftx base adS GWx xyx xcx xnx xrx Ex codex bmx bpx b t) 1 992 1024 codex_57 :=
  And.intro (okx_992 Hy) (okzx 2016)
theorem anx_58 (Hy : Hyx tys cA base adS Ex) : xall (fun b t => xOK l Dg clx tys cA flx ftx base adS GWx xyx xcx xnx xrx Ex codex bmx bpx b t) 2 480 512 codex_58 :=
  And.intro (anx_56 Hy) (anx_57 Hy)
theorem anx_59 (Hy : Hyx tys cA base adS Ex) : xall (fun b t => xOK l Dg clx tys cA flx ftx base adS GWx xyx xcx xnx xrx Ex codex bmx bpx b t) 3 224 256 codex_59 :=
  And.intro (anx_55 Hy) (anx_58 Hy)
theorem anx_60 (Hy : Hyx tys cA base adS Ex) : xall (fun b t => xOK l Dg clx tys cA flx ftx base adS GWx xyx xcx xnx xrx Ex codex bmx bpx b t) 4 96 128 codex_60 :=
  And.intro (anx_52 Hy) (anx_59 Hy)
theorem anx_61 (Hy : Hyx tys cA base adS Ex) : xall (fun b t => xOK l Dg clx tys cA flx ftx base adS GWx xyx xcx xnx xrx Ex codex bmx bpx b t) 5 32 64 codex_61 :=
  And.intro (anx_45 Hy) (anx_60 Hy)
theorem anx_62 (Hy : Hyx tys cA base adS Ex) : xall (fun b t => xOK l Dg clx tys cA flx ftx base adS GWx xyx xcx xnx xrx Ex codex bmx bpx b t) 6 0 32 codex_62 :=
  And.intro (anx_30 Hy) (anx_61 Hy)
theorem anx_63 (Hy : Hyx tys cA base adS Ex) : xall (fun b t => xOK l Dg clx tys cA flx ftx base adS GWx xyx xcx xnx xrx Ex codex bmx bpx b t) 1 16 1024 codex_63 :=
  And.intro (okx_16 Hy) (okx_1040 Hy)
theorem anx_64 (Hy : Hyx tys cA base adS Ex) : xall (fun b t => xOK l Dg clx tys cA flx ftx base adS GWx xyx xcx xnx xrx Ex codex bmx bpx b t) 1 528 1024 codex_64 :=
  And.intro (okx_528 Hy) (okzx 1552)
theorem anx_65 (Hy : Hyx tys cA base adS Ex) : xall (fun b t => xOK l Dg clx tys cA flx ftx base adS GWx xyx xcx xnx xrx Ex codex bmx bpx b t) 2 16 512 codex_65 :=
  And.intro (anx_63 Hy) (anx_64 Hy)
theorem anx_66 (Hy : Hyx tys cA base adS Ex) : xall (fun b t => xOK l Dg clx tys cA flx ftx base adS GWx xyx xcx xnx xrx Ex codex bmx bpx b t) 1 272 1024 codex_66 :=
  And.intro (okx_272 Hy) (okzx 1296)
theorem anx_67 (Hy : Hyx tys cA base adS Ex) : xall (fun b t => xOK l Dg clx tys cA flx ftx base adS GWx xyx xcx xnx xrx Ex codex bmx bpx b t) 1 784 1024 codex_67 :=
  And.intro (okx_784 Hy) (okzx 1808)
theorem anx_68 (Hy : Hyx tys cA base adS Ex) : xall (fun b t => xOK l Dg clx tys cA flx ftx base adS GWx xyx xcx xnx xrx Ex codex bmx bpx b t) 2 272 512 codex_68 :=
  And.intro (anx_66 Hy) (anx_67 Hy)
theorem anx_69 (Hy : Hyx tys cA base adS Ex) : xall (fun b t => xOK l Dg clx tys cA flx ftx base adS GWx xyx xcx xnx xrx Ex codex bmx bpx b t) 3 16 256 codex_69 :=
  And.intro (anx_65 Hy) (anx_68 Hy)
theorem anx_70 (Hy : Hyx tys cA base adS Ex) : xall (fun b t => xOK l Dg clx tys cA flx ftx base adS GWx xyx xcx xnx xrx Ex codex bmx bpx b t) 1 144 1024 codex_70 :=
  And.intro (okx_144 Hy) (okx_1168 Hy)
theorem anx_71 (Hy : Hyx tys cA base adS Ex) : xall (fun b t => xOK l Dg clx tys cA flx ftx base adS GWx xyx xcx xnx xrx Ex codex bmx bpx b t) 1 656 1024 codex_71 :=
  And.intro (okx_656 Hy) (okzx 1680)
theorem anx_72 (Hy : Hyx tys cA base adS Ex) : xall (fun b t => xOK l Dg clx tys cA flx ftx base adS GWx xyx xcx xnx xrx Ex codex bmx bpx b t) 2 144 512 codex_72 :=
  And.intro (anx_70 Hy) (anx_71 Hy)
theorem anx_73 (Hy : Hyx tys cA base adS Ex) : xall (fun b t => xOK l Dg clx tys cA flx ftx base adS GWx xyx xcx xnx xrx Ex codex bmx bpx b t) 1 400 1024 codex_73 :=
  And.intro (okx_400 Hy) (okzx 1424)
theorem anx_74 (Hy : Hyx tys cA base adS Ex) : xall (fun b t => xOK l Dg clx tys cA flx ftx base adS GWx xyx xcx xnx xrx Ex codex bmx bpx b t) 1 912 1024 codex_74 :=
  And.intro (okx_912 Hy) (okzx 1936)
theorem anx_75 (Hy : Hyx tys cA base adS Ex) : xall (fun b t => xOK l Dg clx tys cA flx ftx base adS GWx xyx xcx xnx xrx Ex codex bmx bpx b t) 2 400 512 codex_75 :=
  And.intro (anx_73 Hy) (anx_74 Hy)
theorem anx_76 (Hy : Hyx tys cA base adS Ex) : xall (fun b t => xOK l Dg clx tys cA flx ftx base adS GWx xyx xcx xnx xrx Ex codex bmx bpx b t) 3 144 256 codex_76 :=
  And.intro (anx_72 Hy) (anx_75 Hy)
theorem anx_77 (Hy : Hyx tys cA base adS Ex) : xall (fun b t => xOK l Dg clx tys cA flx ftx base adS GWx xyx xcx xnx xrx Ex codex bmx bpx b t) 4 16 128 codex_77 :=
  And.intro (anx_69 Hy) (anx_76 Hy)
theorem anx_78 (Hy : Hyx tys cA base adS Ex) : xall (fun b t => xOK l Dg clx tys cA flx ftx base adS GWx xyx xcx xnx xrx Ex codex bmx bpx b t) 1 80 1024 codex_78 :=
  And.intro (okx_80 Hy) (okx_1104 Hy)
theorem anx_79 (Hy : Hyx tys cA base adS Ex) : xall (fun b t => xOK l Dg clx tys cA flx ftx base adS GWx xyx xcx xnx xrx Ex codex bmx bpx b t) 1 592 1024 codex_79 :=
  And.intro (okx_592 Hy) (okzx 1616)
theorem anx_80 (Hy : Hyx tys cA base adS Ex) : xall (fun b t => xOK l Dg clx tys cA flx ftx base adS GWx xyx xcx xnx xrx Ex codex bmx bpx b t) 2 80 512 codex_80 :=
  And.intro (anx_78 Hy) (anx_79 Hy)
theorem anx_81 (Hy : Hyx tys cA base adS Ex) : xall (fun b t => xOK l Dg clx tys cA flx ftx base adS GWx xyx xcx xnx xrx Ex codex bmx bpx b t) 1 336 1024 codex_81 :=
  And.intro (okx_336 Hy) (okzx 1360)
theorem anx_82 (Hy : Hyx tys cA base adS Ex) : xall (fun b t => xOK l Dg clx tys cA flx ftx base adS GWx xyx xcx xnx xrx Ex codex bmx bpx b t) 1 848 1024 codex_82 :=
  And.intro (okx_848 Hy) (okzx 1872)
theorem anx_83 (Hy : Hyx tys cA base adS Ex) : xall (fun b t => xOK l Dg clx tys cA flx ftx base adS GWx xyx xcx xnx xrx Ex codex bmx bpx b t) 2 336 512 codex_83 :=
  And.intro (anx_81 Hy) (anx_82 Hy)
theorem anx_84 (Hy : Hyx tys cA base adS Ex) : xall (fun b t => xOK l Dg clx tys cA flx ftx base adS GWx xyx xcx xnx xrx Ex codex bmx bpx b t) 3 80 256 codex_84 :=
  And.intro (anx_80 Hy) (anx_83 Hy)
theorem anx_85 (Hy : Hyx tys cA base adS Ex) : xall (fun b t => xOK l Dg clx tys cA flx ftx base adS GWx xyx xcx xnx xrx Ex codex bmx bpx b t) 1 208 1024 codex_85 :=
  And.intro (okx_208 Hy) (okzx 1232)
theorem anx_86 (Hy : Hyx tys cA base adS Ex) : xall (fun b t => xOK l Dg clx tys cA flx ftx base adS GWx xyx xcx xnx xrx Ex codex bmx bpx b t) 1 720 1024 codex_86 :=
  And.intro (okx_720 Hy) (okzx 1744)
theorem anx_87 (Hy : Hyx tys cA base adS Ex) : xall (fun b t => xOK l Dg clx tys cA flx ftx base adS GWx xyx xcx xnx xrx Ex codex bmx bpx b t) 2 208 512 codex_87 :=
  And.intro (anx_85 Hy) (anx_86 Hy)
theorem anx_88 (Hy : Hyx tys cA base adS Ex) : xall (fun b t => xOK l Dg clx tys cA flx ftx base adS GWx xyx xcx xnx xrx Ex codex bmx bpx b t) 1 464 1024 codex_88 :=
  And.intro (okx_464 Hy) (okzx 1488)
theorem anx_89 (Hy : Hyx tys cA base adS Ex) : xall (fun b t => xOK l Dg clx tys cA flx ftx base adS GWx xyx xcx xnx xrx Ex codex bmx bpx b t) 1 976 1024 codex_89 :=
  And.intro (okx_976 Hy) (okzx 2000)
theorem anx_90 (Hy : Hyx tys cA base adS Ex) : xall (fun b t => xOK l Dg clx tys cA flx ftx base adS GWx xyx xcx xnx xrx Ex codex bmx bpx b t) 2 464 512 codex_90 :=
  And.intro (anx_88 Hy) (anx_89 Hy)
theorem anx_91 (Hy : Hyx tys cA base adS Ex) : xall (fun b t => xOK l Dg clx tys cA flx ftx base adS GWx xyx xcx xnx xrx Ex codex bmx bpx b t) 3 208 256 codex_91 :=
  And.intro (anx_87 Hy) (anx_90 Hy)
theorem anx_92 (Hy : Hyx tys cA base adS Ex) : xall (fun b t => xOK l Dg clx tys cA flx ftx base adS GWx xyx xcx xnx xrx Ex codex bmx bpx b t) 4 80 128 codex_92 :=
  And.intro (anx_84 Hy) (anx_91 Hy)
theorem anx_93 (Hy : Hyx tys cA base adS Ex) : xall (fun b t => xOK l Dg clx tys cA flx ftx base adS GWx xyx xcx xnx xrx Ex codex bmx bpx b t) 5 16 64 codex_93 :=
  And.intro (anx_77 Hy) (anx_92 Hy)
theorem anx_94 (Hy : Hyx tys cA base adS Ex) : xall (fun b t => xOK l Dg clx tys cA flx ftx base adS GWx xyx xcx xnx xrx Ex codex bmx bpx b t) 1 48 1024 codex_94 :=
  And.intro (okx_48 Hy) (okx_1072 Hy)
theorem anx_95 (Hy : Hyx tys cA base adS Ex) : xall (fun b t => xOK l Dg clx tys cA flx ftx base adS GWx xyx xcx xnx xrx Ex codex bmx bpx b t) 1 560 1024 codex_95 :=
  And.intro (okx_560 Hy) (okzx 1584)
theorem anx_96 (Hy : Hyx tys cA base adS Ex) : xall (fun b t => xOK l Dg clx tys cA flx ftx base adS GWx xyx xcx xnx xrx Ex codex bmx bpx b t) 2 48 512 codex_96 :=
  And.intro (anx_94 Hy) (anx_95 Hy)
theorem anx_97 (Hy : Hyx tys cA base adS Ex) : xall (fun b t => xOK l Dg clx tys cA flx ftx base adS GWx xyx xcx xnx xrx Ex codex bmx bpx b t) 1 304 1024 codex_97 :=
  And.intro (okx_304 Hy) (okzx 1328)
theorem anx_98 (Hy : Hyx tys cA base adS Ex) : xall (fun b t => xOK l Dg clx tys cA flx ftx base adS GWx xyx xcx xnx xrx Ex codex bmx bpx b t) 1 816 1024 codex_98 :=
  And.intro (okx_816 Hy) (okzx 1840)
theorem anx_99 (Hy : Hyx tys cA base adS Ex) : xall (fun b t => xOK l Dg clx tys cA flx ftx base adS GWx xyx xcx xnx xrx Ex codex bmx bpx b t) 2 304 512 codex_99 :=
  And.intro (anx_97 Hy) (anx_98 Hy)
theorem anx_100 (Hy : Hyx tys cA base adS Ex) : xall (fun b t => xOK l Dg clx tys cA flx ftx base adS GWx xyx xcx xnx xrx Ex codex bmx bpx b t) 3 48 256 codex_100 :=
  And.intro (anx_96 Hy) (anx_99 Hy)
theorem anx_101 (Hy : Hyx tys cA base adS Ex) : xall (fun b t => xOK l Dg clx tys cA flx ftx base adS GWx xyx xcx xnx xrx Ex codex bmx bpx b t) 1 176 1024 codex_101 :=
  And.intro (okx_176 Hy) (okzx 1200)
theorem anx_102 (Hy : Hyx tys cA base adS Ex) : xall (fun b t => xOK l Dg clx tys cA flx ftx base adS GWx xyx xcx xnx xrx Ex codex bmx bpx b t) 1 688 1024 codex_102 :=
  And.intro (okx_688 Hy) (okzx 1712)
theorem anx_103 (Hy : Hyx tys cA base adS Ex) : xall (fun b t => xOK l Dg clx tys cA flx ftx base adS GWx xyx xcx xnx xrx Ex codex bmx bpx b t) 2 176 512 codex_103 :=
  And.intro (anx_101 Hy) (anx_102 Hy)
theorem anx_104 (Hy : Hyx tys cA base adS Ex) : xall (fun b t => xOK l Dg clx tys cA flx ftx base adS GWx xyx xcx xnx xrx Ex codex bmx bpx b t) 1 432 1024 codex_104 :=
  And.intro (okx_432 Hy) (okzx 1456)
theorem anx_105 (Hy : Hyx tys cA base adS Ex) : xall (fun b t => xOK l Dg clx tys cA flx ftx base adS GWx xyx xcx xnx xrx Ex codex bmx bpx b t) 1 944 1024 codex_105 :=
  And.intro (okx_944 Hy) (okzx 1968)
theorem anx_106 (Hy : Hyx tys cA base adS Ex) : xall (fun b t => xOK l Dg clx tys cA flx ftx base adS GWx xyx xcx xnx xrx Ex codex bmx bpx b t) 2 432 512 codex_106 :=
  And.intro (anx_104 Hy) (anx_105 Hy)
theorem anx_107 (Hy : Hyx tys cA base adS Ex) : xall (fun b t => xOK l Dg clx tys cA flx ftx base adS GWx xyx xcx xnx xrx Ex codex bmx bpx b t) 3 176 256 codex_107 :=
  And.intro (anx_103 Hy) (anx_106 Hy)
theorem anx_108 (Hy : Hyx tys cA base adS Ex) : xall (fun b t => xOK l Dg clx tys cA flx ftx base adS GWx xyx xcx xnx xrx Ex codex bmx bpx b t) 4 48 128 codex_108 :=
  And.intro (anx_100 Hy) (anx_107 Hy)
theorem anx_109 (Hy : Hyx tys cA base adS Ex) : xall (fun b t => xOK l Dg clx tys cA flx ftx base adS GWx xyx xcx xnx xrx Ex codex bmx bpx b t) 1 112 1024 codex_109 :=
  And.intro (okx_112 Hy) (okx_1136 Hy)
theorem anx_110 (Hy : Hyx tys cA base adS Ex) : xall (fun b t => xOK l Dg clx tys cA flx ftx base adS GWx xyx xcx xnx xrx Ex codex bmx bpx b t) 1 624 1024 codex_110 :=
  And.intro (okx_624 Hy) (okzx 1648)
theorem anx_111 (Hy : Hyx tys cA base adS Ex) : xall (fun b t => xOK l Dg clx tys cA flx ftx base adS GWx xyx xcx xnx xrx Ex codex bmx bpx b t) 2 112 512 codex_111 :=
  And.intro (anx_109 Hy) (anx_110 Hy)
theorem anx_112 (Hy : Hyx tys cA base adS Ex) : xall (fun b t => xOK l Dg clx tys cA flx ftx base adS GWx xyx xcx xnx xrx Ex codex bmx bpx b t) 1 368 1024 codex_112 :=
  And.intro (okx_368 Hy) (okzx 1392)
theorem anx_113 (Hy : Hyx tys cA base adS Ex) : xall (fun b t => xOK l Dg clx tys cA flx ftx base adS GWx xyx xcx xnx xrx Ex codex bmx bpx b t) 1 880 1024 codex_113 :=
  And.intro (okx_880 Hy) (okzx 1904)
theorem anx_114 (Hy : Hyx tys cA base adS Ex) : xall (fun b t => xOK l Dg clx tys cA flx ftx base adS GWx xyx xcx xnx xrx Ex codex bmx bpx b t) 2 368 512 codex_114 :=
  And.intro (anx_112 Hy) (anx_113 Hy)
theorem anx_115 (Hy : Hyx tys cA base adS Ex) : xall (fun b t => xOK l Dg clx tys cA flx ftx base adS GWx xyx xcx xnx xrx Ex codex bmx bpx b t) 3 112 256 codex_115 :=
  And.intro (anx_111 Hy) (anx_114 Hy)
theorem anx_116 (Hy : Hyx tys cA base adS Ex) : xall (fun b t => xOK l Dg clx tys cA flx ftx base adS GWx xyx xcx xnx xrx Ex codex bmx bpx b t) 1 240 1024 codex_116 :=
  And.intro (okx_240 Hy) (okzx 1264)
theorem anx_117 (Hy : Hyx tys cA base adS Ex) : xall (fun b t => xOK l Dg clx tys cA flx ftx base adS GWx xyx xcx xnx xrx Ex codex bmx bpx b t) 1 752 1024 codex_117 :=
  And.intro (okx_752 Hy) (okzx 1776)
theorem anx_118 (Hy : Hyx tys cA base adS Ex) : xall (fun b t => xOK l Dg clx tys cA flx ftx base adS GWx xyx xcx xnx xrx Ex codex bmx bpx b t) 2 240 512 codex_118 :=
  And.intro (anx_116 Hy) (anx_117 Hy)
theorem anx_119 (Hy : Hyx tys cA base adS Ex) : xall (fun b t => xOK l Dg clx tys cA flx ftx base adS GWx xyx xcx xnx xrx Ex codex bmx bpx b t) 1 496 1024 codex_119 :=
  And.intro (okx_496 Hy) (okzx 1520)
theorem anx_120 (Hy : Hyx tys cA base adS Ex) : xall (fun b t => xOK l Dg clx tys cA flx ftx base adS GWx xyx xcx xnx xrx Ex codex bmx bpx b t) 1 1008 1024 codex_120 :=
  And.intro (okx_1008 Hy) (okzx 2032)
theorem anx_121 (Hy : Hyx tys cA base adS Ex) : xall (fun b t => xOK l Dg clx tys cA flx ftx base adS GWx xyx xcx xnx xrx Ex codex bmx bpx b t) 2 496 512 codex_121 :=
  And.intro (anx_119 Hy) (anx_120 Hy)
theorem anx_122 (Hy : Hyx tys cA base adS Ex) : xall (fun b t => xOK l Dg clx tys cA flx ftx base adS GWx xyx xcx xnx xrx Ex codex bmx bpx b t) 3 240 256 codex_122 :=
  And.intro (anx_118 Hy) (anx_121 Hy)
theorem anx_123 (Hy : Hyx tys cA base adS Ex) : xall (fun b t => xOK l Dg clx tys cA flx ftx base adS GWx xyx xcx xnx xrx Ex codex bmx bpx b t) 4 112 128 codex_123 :=
  And.intro (anx_115 Hy) (anx_122 Hy)
theorem anx_124 (Hy : Hyx tys cA base adS Ex) : xall (fun b t => xOK l Dg clx tys cA flx ftx base adS GWx xyx xcx xnx xrx Ex codex bmx bpx b t) 5 48 64 codex_124 :=
  And.intro (anx_108 Hy) (anx_123 Hy)
theorem anx_125 (Hy : Hyx tys cA base adS Ex) : xall (fun b t => xOK l Dg clx tys cA flx ftx base adS GWx xyx xcx xnx xrx Ex codex bmx bpx b t) 6 16 32 codex_125 :=
  And.intro (anx_93 Hy) (anx_124 Hy)
theorem anx_126 (Hy : Hyx tys cA base adS Ex) : xall (fun b t => xOK l Dg clx tys cA flx ftx base adS GWx xyx xcx xnx xrx Ex codex bmx bpx b t) 7 0 16 codex_126 :=
  And.intro (anx_62 Hy) (anx_125 Hy)
theorem anx_127 (Hy : Hyx tys cA base adS Ex) : xall (fun b t => xOK l Dg clx tys cA flx ftx base adS GWx xyx xcx xnx xrx Ex codex bmx bpx b t) 1 8 1024 codex_127 :=
  And.intro (okx_8 Hy) (okx_1032 Hy)
theorem anx_128 (Hy : Hyx tys cA base adS Ex) : xall (fun b t => xOK l Dg clx tys cA flx ftx base adS GWx xyx xcx xnx xrx Ex codex bmx bpx b t) 1 520 1024 codex_128 :=
  And.intro (okx_520 Hy) (okzx 1544)
theorem anx_129 (Hy : Hyx tys cA base adS Ex) : xall (fun b t => xOK l Dg clx tys cA flx ftx base adS GWx xyx xcx xnx xrx Ex codex bmx bpx b t) 2 8 512 codex_129 :=
  And.intro (anx_127 Hy) (anx_128 Hy)
theorem anx_130 (Hy : Hyx tys cA base adS Ex) : xall (fun b t => xOK l Dg clx tys cA flx ftx base adS GWx xyx xcx xnx xrx Ex codex bmx bpx b t) 1 264 1024 codex_130 :=
  And.intro (okx_264 Hy) (okzx 1288)
theorem anx_131 (Hy : Hyx tys cA base adS Ex) : xall (fun b t => xOK l Dg clx tys cA flx ftx base adS GWx xyx xcx xnx xrx Ex codex bmx bpx b t) 1 776 1024 codex_131 :=
  And.intro (okx_776 Hy) (okzx 1800)
theorem anx_132 (Hy : Hyx tys cA base adS Ex) : xall (fun b t => xOK l Dg clx tys cA flx ftx base adS GWx xyx xcx xnx xrx Ex codex bmx bpx b t) 2 264 512 codex_132 :=
  And.intro (anx_130 Hy) (anx_131 Hy)
theorem anx_133 (Hy : Hyx tys cA base adS Ex) : xall (fun b t => xOK l Dg clx tys cA flx ftx base adS GWx xyx xcx xnx xrx Ex codex bmx bpx b t) 3 8 256 codex_133 :=
  And.intro (anx_129 Hy) (anx_132 Hy)
theorem anx_134 (Hy : Hyx tys cA base adS Ex) : xall (fun b t => xOK l Dg clx tys cA flx ftx base adS GWx xyx xcx xnx xrx Ex codex bmx bpx b t) 1 136 1024 codex_134 :=
  And.intro (okx_136 Hy) (okx_1160 Hy)
theorem anx_135 (Hy : Hyx tys cA base adS Ex) : xall (fun b t => xOK l Dg clx tys cA flx ftx base adS GWx xyx xcx xnx xrx Ex codex bmx bpx b t) 1 648 1024 codex_135 :=
  And.intro (okx_648 Hy) (okzx 1672)
theorem anx_136 (Hy : Hyx tys cA base adS Ex) : xall (fun b t => xOK l Dg clx tys cA flx ftx base adS GWx xyx xcx xnx xrx Ex codex bmx bpx b t) 2 136 512 codex_136 :=
  And.intro (anx_134 Hy) (anx_135 Hy)
theorem anx_137 (Hy : Hyx tys cA base adS Ex) : xall (fun b t => xOK l Dg clx tys cA flx ftx base adS GWx xyx xcx xnx xrx Ex codex bmx bpx b t) 1 392 1024 codex_137 :=
  And.intro (okx_392 Hy) (okzx 1416)
theorem anx_138 (Hy : Hyx tys cA base adS Ex) : xall (fun b t => xOK l Dg clx tys cA flx ftx base adS GWx xyx xcx xnx xrx Ex codex bmx bpx b t) 1 904 1024 codex_138 :=
  And.intro (okx_904 Hy) (okzx 1928)
theorem anx_139 (Hy : Hyx tys cA base adS Ex) : xall (fun b t => xOK l Dg clx tys cA flx ftx base adS GWx xyx xcx xnx xrx Ex codex bmx bpx b t) 2 392 512 codex_139 :=
  And.intro (anx_137 Hy) (anx_138 Hy)
theorem anx_140 (Hy : Hyx tys cA base adS Ex) : xall (fun b t => xOK l Dg clx tys cA flx ftx base adS GWx xyx xcx xnx xrx Ex codex bmx bpx b t) 3 136 256 codex_140 :=
  And.intro (anx_136 Hy) (anx_139 Hy)
theorem anx_141 (Hy : Hyx tys cA base adS Ex) : xall (fun b t => xOK l Dg clx tys cA flx ftx base adS GWx xyx xcx xnx xrx Ex codex bmx bpx b t) 4 8 128 codex_141 :=
  And.intro (anx_133 Hy) (anx_140 Hy)
theorem anx_142 (Hy : Hyx tys cA base adS Ex) : xall (fun b t => xOK l Dg clx tys cA flx ftx base adS GWx xyx xcx xnx xrx Ex codex bmx bpx b t) 1 72 1024 codex_142 :=
  And.intro (okx_72 Hy) (okx_1096 Hy)
theorem anx_143 (Hy : Hyx tys cA base adS Ex) : xall (fun b t => xOK l Dg clx tys cA flx ftx base adS GWx xyx xcx xnx xrx Ex codex bmx bpx b t) 1 584 1024 codex_143 :=
  And.intro (okx_584 Hy) (okzx 1608)
theorem anx_144 (Hy : Hyx tys cA base adS Ex) : xall (fun b t => xOK l Dg clx tys cA flx ftx base adS GWx xyx xcx xnx xrx Ex codex bmx bpx b t) 2 72 512 codex_144 :=
  And.intro (anx_142 Hy) (anx_143 Hy)
theorem anx_145 (Hy : Hyx tys cA base adS Ex) : xall (fun b t => xOK l Dg clx tys cA flx ftx base adS GWx xyx xcx xnx xrx Ex codex bmx bpx b t) 1 328 1024 codex_145 :=
  And.intro (okx_328 Hy) (okzx 1352)
theorem anx_146 (Hy : Hyx tys cA base adS Ex) : xall (fun b t => xOK l Dg clx tys cA flx ftx base adS GWx xyx xcx xnx xrx Ex codex bmx bpx b t) 1 840 1024 codex_146 :=
  And.intro (okx_840 Hy) (okzx 1864)
theorem anx_147 (Hy : Hyx tys cA base adS Ex) : xall (fun b t => xOK l Dg clx tys cA flx ftx base adS GWx xyx xcx xnx xrx Ex codex bmx bpx b t) 2 328 512 codex_147 :=
  And.intro (anx_145 Hy) (anx_146 Hy)
theorem anx_148 (Hy : Hyx tys cA base adS Ex) : xall (fun b t => xOK l Dg clx tys cA flx ftx base adS GWx xyx xcx xnx xrx Ex codex bmx bpx b t) 3 72 256 codex_148 :=
  And.intro (anx_144 Hy) (anx_147 Hy)
theorem anx_149 (Hy : Hyx tys cA base adS Ex) : xall (fun b t => xOK l Dg clx tys cA flx ftx base adS GWx xyx xcx xnx xrx Ex codex bmx bpx b t) 1 200 1024 codex_149 :=
  And.intro (okx_200 Hy) (okzx 1224)
theorem anx_150 (Hy : Hyx tys cA base adS Ex) : xall (fun b t => xOK l Dg clx tys cA flx ftx base adS GWx xyx xcx xnx xrx Ex codex bmx bpx b t) 1 712 1024 codex_150 :=
  And.intro (okx_712 Hy) (okzx 1736)
theorem anx_151 (Hy : Hyx tys cA base adS Ex) : xall (fun b t => xOK l Dg clx tys cA flx ftx base adS GWx xyx xcx xnx xrx Ex codex bmx bpx b t) 2 200 512 codex_151 :=
  And.intro (anx_149 Hy) (anx_150 Hy)
theorem anx_152 (Hy : Hyx tys cA base adS Ex) : xall (fun b t => xOK l Dg clx tys cA flx ftx base adS GWx xyx xcx xnx xrx Ex codex bmx bpx b t) 1 456 1024 codex_152 :=
  And.intro (okx_456 Hy) (okzx 1480)
theorem anx_153 (Hy : Hyx tys cA base adS Ex) : xall (fun b t => xOK l Dg clx tys cA flx ftx base adS GWx xyx xcx xnx xrx Ex codex bmx bpx b t) 1 968 1024 codex_153 :=
  And.intro (okx_968 Hy) (okzx 1992)
theorem anx_154 (Hy : Hyx tys cA base adS Ex) : xall (fun b t => xOK l Dg clx tys cA flx ftx base adS GWx xyx xcx xnx xrx Ex codex bmx bpx b t) 2 456 512 codex_154 :=
  And.intro (anx_152 Hy) (anx_153 Hy)
theorem anx_155 (Hy : Hyx tys cA base adS Ex) : xall (fun b t => xOK l Dg clx tys cA flx ftx base adS GWx xyx xcx xnx xrx Ex codex bmx bpx b t) 3 200 256 codex_155 :=
  And.intro (anx_151 Hy) (anx_154 Hy)
theorem anx_156 (Hy : Hyx tys cA base adS Ex) : xall (fun b t => xOK l Dg clx tys cA flx ftx base adS GWx xyx xcx xnx xrx Ex codex bmx bpx b t) 4 72 128 codex_156 :=
  And.intro (anx_148 Hy) (anx_155 Hy)
theorem anx_157 (Hy : Hyx tys cA base adS Ex) : xall (fun b t => xOK l Dg clx tys cA flx ftx base adS GWx xyx xcx xnx xrx Ex codex bmx bpx b t) 5 8 64 codex_157 :=
  And.intro (anx_141 Hy) (anx_156 Hy)
theorem anx_158 (Hy : Hyx tys cA base adS Ex) : xall (fun b t => xOK l Dg clx tys cA flx ftx base adS GWx xyx xcx xnx xrx Ex codex bmx bpx b t) 1 40 1024 codex_158 :=
  And.intro (okx_40 Hy) (okx_1064 Hy)
theorem anx_159 (Hy : Hyx tys cA base adS Ex) : xall (fun b t => xOK l Dg clx tys cA flx ftx base adS GWx xyx xcx xnx xrx Ex codex bmx bpx b t) 1 552 1024 codex_159 :=
  And.intro (okx_552 Hy) (okzx 1576)
theorem anx_160 (Hy : Hyx tys cA base adS Ex) : xall (fun b t => xOK l Dg clx tys cA flx ftx base adS GWx xyx xcx xnx xrx Ex codex bmx bpx b t) 2 40 512 codex_160 :=
  And.intro (anx_158 Hy) (anx_159 Hy)
theorem anx_161 (Hy : Hyx tys cA base adS Ex) : xall (fun b t => xOK l Dg clx tys cA flx ftx base adS GWx xyx xcx xnx xrx Ex codex bmx bpx b t) 1 296 1024 codex_161 :=
  And.intro (okx_296 Hy) (okzx 1320)
theorem anx_162 (Hy : Hyx tys cA base adS Ex) : xall (fun b t => xOK l Dg clx tys cA flx ftx base adS GWx xyx xcx xnx xrx Ex codex bmx bpx b t) 1 808 1024 codex_162 :=
  And.intro (okx_808 Hy) (okzx 1832)
theorem anx_163 (Hy : Hyx tys cA base adS Ex) : xall (fun b t => xOK l Dg clx tys cA flx ftx base adS GWx xyx xcx xnx xrx Ex codex bmx bpx b t) 2 296 512 codex_163 :=
  And.intro (anx_161 Hy) (anx_162 Hy)
theorem anx_164 (Hy : Hyx tys cA base adS Ex) : xall (fun b t => xOK l Dg clx tys cA flx ftx base adS GWx xyx xcx xnx xrx Ex codex bmx bpx b t) 3 40 256 codex_164 :=
  And.intro (anx_160 Hy) (anx_163 Hy)
theorem anx_165 (Hy : Hyx tys cA base adS Ex) : xall (fun b t => xOK l Dg clx tys cA flx ftx base adS GWx xyx xcx xnx xrx Ex codex bmx bpx b t) 1 168 1024 codex_165 :=
  And.intro (okx_168 Hy) (okx_1192 Hy)
theorem anx_166 (Hy : Hyx tys cA base adS Ex) : xall (fun b t => xOK l Dg clx tys cA flx ftx base adS GWx xyx xcx xnx xrx Ex codex bmx bpx b t) 1 680 1024 codex_166 :=
  And.intro (okx_680 Hy) (okzx 1704)
theorem anx_167 (Hy : Hyx tys cA base adS Ex) : xall (fun b t => xOK l Dg clx tys cA flx ftx base adS GWx xyx xcx xnx xrx Ex codex bmx bpx b t) 2 168 512 codex_167 :=
  And.intro (anx_165 Hy) (anx_166 Hy)
theorem anx_168 (Hy : Hyx tys cA base adS Ex) : xall (fun b t => xOK l Dg clx tys cA flx ftx base adS GWx xyx xcx xnx xrx Ex codex bmx bpx b t) 1 424 1024 codex_168 :=
  And.intro (okx_424 Hy) (okzx 1448)
theorem anx_169 (Hy : Hyx tys cA base adS Ex) : xall (fun b t => xOK l Dg clx tys cA flx ftx base adS GWx xyx xcx xnx xrx Ex codex bmx bpx b t) 1 936 1024 codex_169 :=
  And.intro (okx_936 Hy) (okzx 1960)
theorem anx_170 (Hy : Hyx tys cA base adS Ex) : xall (fun b t => xOK l Dg clx tys cA flx ftx base adS GWx xyx xcx xnx xrx Ex codex bmx bpx b t) 2 424 512 codex_170 :=
  And.intro (anx_168 Hy) (anx_169 Hy)
theorem anx_171 (Hy : Hyx tys cA base adS Ex) : xall (fun b t => xOK l Dg clx tys cA flx ftx base adS GWx xyx xcx xnx xrx Ex codex bmx bpx b t) 3 168 256 codex_171 :=
  And.intro (anx_167 Hy) (anx_170 Hy)
theorem anx_172 (Hy : Hyx tys cA base adS Ex) : xall (fun b t => xOK l Dg clx tys cA flx ftx base adS GWx xyx xcx xnx xrx Ex codex bmx bpx b t) 4 40 128 codex_172 :=
  And.intro (anx_164 Hy) (anx_171 Hy)
theorem anx_173 (Hy : Hyx tys cA base adS Ex) : xall (fun b t => xOK l Dg clx tys cA flx ftx base adS GWx xyx xcx xnx xrx Ex codex bmx bpx b t) 1 104 1024 codex_173 :=
  And.intro (okx_104 Hy) (okx_1128 Hy)
theorem anx_174 (Hy : Hyx tys cA base adS Ex) : xall (fun b t => xOK l Dg clx tys cA flx ftx base adS GWx xyx xcx xnx xrx Ex codex bmx bpx b t) 1 616 1024 codex_174 :=
  And.intro (okx_616 Hy) (okzx 1640)
theorem anx_175 (Hy : Hyx tys cA base adS Ex) : xall (fun b t => xOK l Dg clx tys cA flx ftx base adS GWx xyx xcx xnx xrx Ex codex bmx bpx b t) 2 104 512 codex_175 :=
  And.intro (anx_173 Hy) (anx_174 Hy)
theorem anx_176 (Hy : Hyx tys cA base adS Ex) : xall (fun b t => xOK l Dg clx tys cA flx ftx base adS GWx xyx xcx xnx xrx Ex codex bmx bpx b t) 1 360 1024 codex_176 :=
  And.intro (okx_360 Hy) (okzx 1384)
theorem anx_177 (Hy : Hyx tys cA base adS Ex) : xall (fun b t => xOK l Dg clx tys cA flx ftx base adS GWx xyx xcx xnx xrx Ex codex bmx bpx b t) 1 872 1024 codex_177 :=
  And.intro (okx_872 Hy) (okzx 1896)
theorem anx_178 (Hy : Hyx tys cA base adS Ex) : xall (fun b t => xOK l Dg clx tys cA flx ftx base adS GWx xyx xcx xnx xrx Ex codex bmx bpx b t) 2 360 512 codex_178 :=
  And.intro (anx_176 Hy) (anx_177 Hy)
theorem anx_179 (Hy : Hyx tys cA base adS Ex) : xall (fun b t => xOK l Dg clx tys cA flx ftx base adS GWx xyx xcx xnx xrx Ex codex bmx bpx b t) 3 104 256 codex_179 :=
  And.intro (anx_175 Hy) (anx_178 Hy)
theorem anx_180 (Hy : Hyx tys cA base adS Ex) : xall (fun b t => xOK l Dg clx tys cA flx ftx base adS GWx xyx xcx xnx xrx Ex codex bmx bpx b t) 1 232 1024 codex_180 :=
  And.intro (okx_232 Hy) (okzx 1256)
theorem anx_181 (Hy : Hyx tys cA base adS Ex) : xall (fun b t => xOK l Dg clx tys cA flx ftx base adS GWx xyx xcx xnx xrx Ex codex bmx bpx b t) 1 744 1024 codex_181 :=
  And.intro (okx_744 Hy) (okzx 1768)
theorem anx_182 (Hy : Hyx tys cA base adS Ex) : xall (fun b t => xOK l Dg clx tys cA flx ftx base adS GWx xyx xcx xnx xrx Ex codex bmx bpx b t) 2 232 512 codex_182 :=
  And.intro (anx_180 Hy) (anx_181 Hy)
theorem anx_183 (Hy : Hyx tys cA base adS Ex) : xall (fun b t => xOK l Dg clx tys cA flx ftx base adS GWx xyx xcx xnx xrx Ex codex bmx bpx b t) 1 488 1024 codex_183 :=
  And.intro (okx_488 Hy) (okzx 1512)
theorem anx_184 (Hy : Hyx tys cA base adS Ex) : xall (fun b t => xOK l Dg clx tys cA flx ftx base adS GWx xyx xcx xnx xrx Ex codex bmx bpx b t) 1 1000 1024 codex_184 :=
  And.intro (okx_1000 Hy) (okzx 2024)
theorem anx_185 (Hy : Hyx tys cA base adS Ex) : xall (fun b t => xOK l Dg clx tys cA flx ftx base adS GWx xyx xcx xnx xrx Ex codex bmx bpx b t) 2 488 512 codex_185 :=
  And.intro (anx_183 Hy) (anx_184 Hy)
theorem anx_186 (Hy : Hyx tys cA base adS Ex) : xall (fun b t => xOK l Dg clx tys cA flx ftx base adS GWx xyx xcx xnx xrx Ex codex bmx bpx b t) 3 232 256 codex_186 :=
  And.intro (anx_182 Hy) (anx_185 Hy)
theorem anx_187 (Hy : Hyx tys cA base adS Ex) : xall (fun b t => xOK l Dg clx tys cA flx ftx base adS GWx xyx xcx xnx xrx Ex codex bmx bpx b t) 4 104 128 codex_187 :=
  And.intro (anx_179 Hy) (anx_186 Hy)
theorem anx_188 (Hy : Hyx tys cA base adS Ex) : xall (fun b t => xOK l Dg clx tys cA flx ftx base adS GWx xyx xcx xnx xrx Ex codex bmx bpx b t) 5 40 64 codex_188 :=
  And.intro (anx_172 Hy) (anx_187 Hy)
theorem anx_189 (Hy : Hyx tys cA base adS Ex) : xall (fun b t => xOK l Dg clx tys cA flx ftx base adS GWx xyx xcx xnx xrx Ex codex bmx bpx b t) 6 8 32 codex_189 :=
  And.intro (anx_157 Hy) (anx_188 Hy)
theorem anx_190 (Hy : Hyx tys cA base adS Ex) : xall (fun b t => xOK l Dg clx tys cA flx ftx base adS GWx xyx xcx xnx xrx Ex codex bmx bpx b t) 1 24 1024 codex_190 :=
  And.intro (okx_24 Hy) (okx_1048 Hy)
theorem anx_191 (Hy : Hyx tys cA base adS Ex) : xall (fun b t => xOK l Dg clx tys cA flx ftx base adS GWx xyx xcx xnx xrx Ex codex bmx bpx b t) 1 536 1024 codex_191 :=
  And.intro (okx_536 Hy) (okzx 1560)
theorem anx_192 (Hy : Hyx tys cA base adS Ex) : xall (fun b t => xOK l Dg clx tys cA flx ftx base adS GWx xyx xcx xnx xrx Ex codex bmx bpx b t) 2 24 512 codex_192 :=
  And.intro (anx_190 Hy) (anx_191 Hy)
theorem anx_193 (Hy : Hyx tys cA base adS Ex) : xall (fun b t => xOK l Dg clx tys cA flx ftx base adS GWx xyx xcx xnx xrx Ex codex bmx bpx b t) 1 280 1024 codex_193 :=
  And.intro (okx_280 Hy) (okzx 1304)
theorem anx_194 (Hy : Hyx tys cA base adS Ex) : xall (fun b t => xOK l Dg clx tys cA flx ftx base adS GWx xyx xcx xnx xrx Ex codex bmx bpx b t) 1 792 1024 codex_194 :=
  And.intro (okx_792 Hy) (okzx 1816)
theorem anx_195 (Hy : Hyx tys cA base adS Ex) : xall (fun b t => xOK l Dg clx tys cA flx ftx base adS GWx xyx xcx xnx xrx Ex codex bmx bpx b t) 2 280 512 codex_195 :=
  And.intro (anx_193 Hy) (anx_194 Hy)
theorem anx_196 (Hy : Hyx tys cA base adS Ex) : xall (fun b t => xOK l Dg clx tys cA flx ftx base adS GWx xyx xcx xnx xrx Ex codex bmx bpx b t) 3 24 256 codex_196 :=
  And.intro (anx_192 Hy) (anx_195 Hy)
theorem anx_197 (Hy : Hyx tys cA base adS Ex) : xall (fun b t => xOK l Dg clx tys cA flx ftx base adS GWx xyx xcx xnx xrx Ex codex bmx bpx b t) 1 152 1024 codex_197 :=
  And.intro (okx_152 Hy) (okx_1176 Hy)
theorem anx_198 (Hy : Hyx tys cA base adS Ex) : xall (fun b t => xOK l Dg clx tys cA flx ftx base adS GWx xyx xcx xnx xrx Ex codex bmx bpx b t) 1 664 1024 codex_198 :=
  And.intro (okx_664 Hy) (okzx 1688)
theorem anx_199 (Hy : Hyx tys cA base adS Ex) : xall (fun b t => xOK l Dg clx tys cA flx ftx base adS GWx xyx xcx xnx xrx Ex codex bmx bpx b t) 2 152 512 codex_199 :=
  And.intro (anx_197 Hy) (anx_198 Hy)
theorem anx_200 (Hy : Hyx tys cA base adS Ex) : xall (fun b t => xOK l Dg clx tys cA flx ftx base adS GWx xyx xcx xnx xrx Ex codex bmx bpx b t) 1 408 1024 codex_200 :=
  And.intro (okx_408 Hy) (okzx 1432)
theorem anx_201 (Hy : Hyx tys cA base adS Ex) : xall (fun b t => xOK l Dg clx tys cA flx ftx base adS GWx xyx xcx xnx xrx Ex codex bmx bpx b t) 1 920 1024 codex_201 :=
  And.intro (okx_920 Hy) (okzx 1944)
theorem anx_202 (Hy : Hyx tys cA base adS Ex) : xall (fun b t => xOK l Dg clx tys cA flx ftx base adS GWx xyx xcx xnx xrx Ex codex bmx bpx b t) 2 408 512 codex_202 :=
  And.intro (anx_200 Hy) (anx_201 Hy)
theorem anx_203 (Hy : Hyx tys cA base adS Ex) : xall (fun b t => xOK l Dg clx tys cA flx ftx base adS GWx xyx xcx xnx xrx Ex codex bmx bpx b t) 3 152 256 codex_203 :=
  And.intro (anx_199 Hy) (anx_202 Hy)
theorem anx_204 (Hy : Hyx tys cA base adS Ex) : xall (fun b t => xOK l Dg clx tys cA flx ftx base adS GWx xyx xcx xnx xrx Ex codex bmx bpx b t) 4 24 128 codex_204 :=
  And.intro (anx_196 Hy) (anx_203 Hy)
theorem anx_205 (Hy : Hyx tys cA base adS Ex) : xall (fun b t => xOK l Dg clx tys cA flx ftx base adS GWx xyx xcx xnx xrx Ex codex bmx bpx b t) 1 88 1024 codex_205 :=
  And.intro (okx_88 Hy) (okx_1112 Hy)
theorem anx_206 (Hy : Hyx tys cA base adS Ex) : xall (fun b t => xOK l Dg clx tys cA flx ftx base adS GWx xyx xcx xnx xrx Ex codex bmx bpx b t) 1 600 1024 codex_206 :=
  And.intro (okx_600 Hy) (okzx 1624)
theorem anx_207 (Hy : Hyx tys cA base adS Ex) : xall (fun b t => xOK l Dg clx tys cA flx ftx base adS GWx xyx xcx xnx xrx Ex codex bmx bpx b t) 2 88 512 codex_207 :=
  And.intro (anx_205 Hy) (anx_206 Hy)
theorem anx_208 (Hy : Hyx tys cA base adS Ex) : xall (fun b t => xOK l Dg clx tys cA flx ftx base adS GWx xyx xcx xnx xrx Ex codex bmx bpx b t) 1 344 1024 codex_208 :=
  And.intro (okx_344 Hy) (okzx 1368)
theorem anx_209 (Hy : Hyx tys cA base adS Ex) : xall (fun b t => xOK l Dg clx tys cA flx ftx base adS GWx xyx xcx xnx xrx Ex codex bmx bpx b t) 1 856 1024 codex_209 :=
  And.intro (okx_856 Hy) (okzx 1880)
theorem anx_210 (Hy : Hyx tys cA base adS Ex) : xall (fun b t => xOK l Dg clx tys cA flx ftx base adS GWx xyx xcx xnx xrx Ex codex bmx bpx b t) 2 344 512 codex_210 :=
  And.intro (anx_208 Hy) (anx_209 Hy)
theorem anx_211 (Hy : Hyx tys cA base adS Ex) : xall (fun b t => xOK l Dg clx tys cA flx ftx base adS GWx xyx xcx xnx xrx Ex codex bmx bpx b t) 3 88 256 codex_211 :=
  And.intro (anx_207 Hy) (anx_210 Hy)
theorem anx_212 (Hy : Hyx tys cA base adS Ex) : xall (fun b t => xOK l Dg clx tys cA flx ftx base adS GWx xyx xcx xnx xrx Ex codex bmx bpx b t) 1 216 1024 codex_212 :=
  And.intro (okx_216 Hy) (okzx 1240)
theorem anx_213 (Hy : Hyx tys cA base adS Ex) : xall (fun b t => xOK l Dg clx tys cA flx ftx base adS GWx xyx xcx xnx xrx Ex codex bmx bpx b t) 1 728 1024 codex_213 :=
  And.intro (okx_728 Hy) (okzx 1752)
theorem anx_214 (Hy : Hyx tys cA base adS Ex) : xall (fun b t => xOK l Dg clx tys cA flx ftx base adS GWx xyx xcx xnx xrx Ex codex bmx bpx b t) 2 216 512 codex_214 :=
  And.intro (anx_212 Hy) (anx_213 Hy)
theorem anx_215 (Hy : Hyx tys cA base adS Ex) : xall (fun b t => xOK l Dg clx tys cA flx ftx base adS GWx xyx xcx xnx xrx Ex codex bmx bpx b t) 1 472 1024 codex_215 :=
  And.intro (okx_472 Hy) (okzx 1496)
theorem anx_216 (Hy : Hyx tys cA base adS Ex) : xall (fun b t => xOK l Dg clx tys cA flx ftx base adS GWx xyx xcx xnx xrx Ex codex bmx bpx b t) 1 984 1024 codex_216 :=
  And.intro (okx_984 Hy) (okzx 2008)
theorem anx_217 (Hy : Hyx tys cA base adS Ex) : xall (fun b t => xOK l Dg clx tys cA flx ftx base adS GWx xyx xcx xnx xrx Ex codex bmx bpx b t) 2 472 512 codex_217 :=
  And.intro (anx_215 Hy) (anx_216 Hy)
theorem anx_218 (Hy : Hyx tys cA base adS Ex) : xall (fun b t => xOK l Dg clx tys cA flx ftx base adS GWx xyx xcx xnx xrx Ex codex bmx bpx b t) 3 216 256 codex_218 :=
  And.intro (anx_214 Hy) (anx_217 Hy)
theorem anx_219 (Hy : Hyx tys cA base adS Ex) : xall (fun b t => xOK l Dg clx tys cA flx ftx base adS GWx xyx xcx xnx xrx Ex codex bmx bpx b t) 4 88 128 codex_219 :=
  And.intro (anx_211 Hy) (anx_218 Hy)
theorem anx_220 (Hy : Hyx tys cA base adS Ex) : xall (fun b t => xOK l Dg clx tys cA flx ftx base adS GWx xyx xcx xnx xrx Ex codex bmx bpx b t) 5 24 64 codex_220 :=
  And.intro (anx_204 Hy) (anx_219 Hy)
theorem anx_221 (Hy : Hyx tys cA base adS Ex) : xall (fun b t => xOK l Dg clx tys cA flx ftx base adS GWx xyx xcx xnx xrx Ex codex bmx bpx b t) 1 56 1024 codex_221 :=
  And.intro (okx_56 Hy) (okx_1080 Hy)
theorem anx_222 (Hy : Hyx tys cA base adS Ex) : xall (fun b t => xOK l Dg clx tys cA flx ftx base adS GWx xyx xcx xnx xrx Ex codex bmx bpx b t) 1 568 1024 codex_222 :=
  And.intro (okx_568 Hy) (okzx 1592)
theorem anx_223 (Hy : Hyx tys cA base adS Ex) : xall (fun b t => xOK l Dg clx tys cA flx ftx base adS GWx xyx xcx xnx xrx Ex codex bmx bpx b t) 2 56 512 codex_223 :=
  And.intro (anx_221 Hy) (anx_222 Hy)
theorem anx_224 (Hy : Hyx tys cA base adS Ex) : xall (fun b t => xOK l Dg clx tys cA flx ftx base adS GWx xyx xcx xnx xrx Ex codex bmx bpx b t) 1 312 1024 codex_224 :=
  And.intro (okx_312 Hy) (okzx 1336)
theorem anx_225 (Hy : Hyx tys cA base adS Ex) : xall (fun b t => xOK l Dg clx tys cA flx ftx base adS GWx xyx xcx xnx xrx Ex codex bmx bpx b t) 1 824 1024 codex_225 :=
  And.intro (okx_824 Hy) (okzx 1848)
theorem anx_226 (Hy : Hyx tys cA base adS Ex) : xall (fun b t => xOK l Dg clx tys cA flx ftx base adS GWx xyx xcx xnx xrx Ex codex bmx bpx b t) 2 312 512 codex_226 :=
  And.intro (anx_224 Hy) (anx_225 Hy)
theorem anx_227 (Hy : Hyx tys cA base adS Ex) : xall (fun b t => xOK l Dg clx tys cA flx ftx base adS GWx xyx xcx xnx xrx Ex codex bmx bpx b t) 3 56 256 codex_227 :=
  And.intro (anx_223 Hy) (anx_226 Hy)
theorem anx_228 (Hy : Hyx tys cA base adS Ex) : xall (fun b t => xOK l Dg clx tys cA flx ftx base adS GWx xyx xcx xnx xrx Ex codex bmx bpx b t) 1 184 1024 codex_228 :=
  And.intro (okx_184 Hy) (okzx 1208)
theorem anx_229 (Hy : Hyx tys cA base adS Ex) : xall (fun b t => xOK l Dg clx tys cA flx ftx base adS GWx xyx xcx xnx xrx Ex codex bmx bpx b t) 1 696 1024 codex_229 :=
  And.intro (okx_696 Hy) (okzx 1720)
theorem anx_230 (Hy : Hyx tys cA base adS Ex) : xall (fun b t => xOK l Dg clx tys cA flx ftx base adS GWx xyx xcx xnx xrx Ex codex bmx bpx b t) 2 184 512 codex_230 :=
  And.intro (anx_228 Hy) (anx_229 Hy)
theorem anx_231 (Hy : Hyx tys cA base adS Ex) : xall (fun b t => xOK l Dg clx tys cA flx ftx base adS GWx xyx xcx xnx xrx Ex codex bmx bpx b t) 1 440 1024 codex_231 :=
  And.intro (okx_440 Hy) (okzx 1464)
theorem anx_232 (Hy : Hyx tys cA base adS Ex) : xall (fun b t => xOK l Dg clx tys cA flx ftx base adS GWx xyx xcx xnx xrx Ex codex bmx bpx b t) 1 952 1024 codex_232 :=
  And.intro (okx_952 Hy) (okzx 1976)
theorem anx_233 (Hy : Hyx tys cA base adS Ex) : xall (fun b t => xOK l Dg clx tys cA flx ftx base adS GWx xyx xcx xnx xrx Ex codex bmx bpx b t) 2 440 512 codex_233 :=
  And.intro (anx_231 Hy) (anx_232 Hy)
theorem anx_234 (Hy : Hyx tys cA base adS Ex) : xall (fun b t => xOK l Dg clx tys cA flx ftx base adS GWx xyx xcx xnx xrx Ex codex bmx bpx b t) 3 184 256 codex_234 :=
  And.intro (anx_230 Hy) (anx_233 Hy)
theorem anx_235 (Hy : Hyx tys cA base adS Ex) : xall (fun b t => xOK l Dg clx tys cA flx ftx base adS GWx xyx xcx xnx xrx Ex codex bmx bpx b t) 4 56 128 codex_235 :=
  And.intro (anx_227 Hy) (anx_234 Hy)
theorem anx_236 (Hy : Hyx tys cA base adS Ex) : xall (fun b t => xOK l Dg clx tys cA flx ftx base adS GWx xyx xcx xnx xrx Ex codex bmx bpx b t) 1 120 1024 codex_236 :=
  And.intro (okx_120 Hy) (okx_1144 Hy)
theorem anx_237 (Hy : Hyx tys cA base adS Ex) : xall (fun b t => xOK l Dg clx tys cA flx ftx base adS GWx xyx xcx xnx xrx Ex codex bmx bpx b t) 1 632 1024 codex_237 :=
  And.intro (okx_632 Hy) (okzx 1656)
theorem anx_238 (Hy : Hyx tys cA base adS Ex) : xall (fun b t => xOK l Dg clx tys cA flx ftx base adS GWx xyx xcx xnx xrx Ex codex bmx bpx b t) 2 120 512 codex_238 :=
  And.intro (anx_236 Hy) (anx_237 Hy)
theorem anx_239 (Hy : Hyx tys cA base adS Ex) : xall (fun b t => xOK l Dg clx tys cA flx ftx base adS GWx xyx xcx xnx xrx Ex codex bmx bpx b t) 1 376 1024 codex_239 :=
  And.intro (okx_376 Hy) (okzx 1400)
theorem anx_240 (Hy : Hyx tys cA base adS Ex) : xall (fun b t => xOK l Dg clx tys cA flx ftx base adS GWx xyx xcx xnx xrx Ex codex bmx bpx b t) 1 888 1024 codex_240 :=
  And.intro (okx_888 Hy) (okzx 1912)
theorem anx_241 (Hy : Hyx tys cA base adS Ex) : xall (fun b t => xOK l Dg clx tys cA flx ftx base adS GWx xyx xcx xnx xrx Ex codex bmx bpx b t) 2 376 512 codex_241 :=
  And.intro (anx_239 Hy) (anx_240 Hy)
theorem anx_242 (Hy : Hyx tys cA base adS Ex) : xall (fun b t => xOK l Dg clx tys cA flx ftx base adS GWx xyx xcx xnx xrx Ex codex bmx bpx b t) 3 120 256 codex_242 :=
  And.intro (anx_238 Hy) (anx_241 Hy)
theorem anx_243 (Hy : Hyx tys cA base adS Ex) : xall (fun b t => xOK l Dg clx tys cA flx ftx base adS GWx xyx xcx xnx xrx Ex codex bmx bpx b t) 1 248 1024 codex_243 :=
  And.intro (okx_248 Hy) (okzx 1272)
theorem anx_244 (Hy : Hyx tys cA base adS Ex) : xall (fun b t => xOK l Dg clx tys cA flx ftx base adS GWx xyx xcx xnx xrx Ex codex bmx bpx b t) 1 760 1024 codex_244 :=
  And.intro (okx_760 Hy) (okzx 1784)
theorem anx_245 (Hy : Hyx tys cA base adS Ex) : xall (fun b t => xOK l Dg clx tys cA flx ftx base adS GWx xyx xcx xnx xrx Ex codex bmx bpx b t) 2 248 512 codex_245 :=
  And.intro (anx_243 Hy) (anx_244 Hy)
theorem anx_246 (Hy : Hyx tys cA base adS Ex) : xall (fun b t => xOK l Dg clx tys cA flx ftx base adS GWx xyx xcx xnx xrx Ex codex bmx bpx b t) 1 504 1024 codex_246 :=
  And.intro (okx_504 Hy) (okzx 1528)
theorem anx_247 (Hy : Hyx tys cA base adS Ex) : xall (fun b t => xOK l Dg clx tys cA flx ftx base adS GWx xyx xcx xnx xrx Ex codex bmx bpx b t) 1 1016 1024 codex_247 :=
  And.intro (okx_1016 Hy) (okzx 2040)
theorem anx_248 (Hy : Hyx tys cA base adS Ex) : xall (fun b t => xOK l Dg clx tys cA flx ftx base adS GWx xyx xcx xnx xrx Ex codex bmx bpx b t) 2 504 512 codex_248 :=
  And.intro (anx_246 Hy) (anx_247 Hy)
theorem anx_249 (Hy : Hyx tys cA base adS Ex) : xall (fun b t => xOK l Dg clx tys cA flx ftx base adS GWx xyx xcx xnx xrx Ex codex bmx bpx b t) 3 248 256 codex_249 :=
  And.intro (anx_245 Hy) (anx_248 Hy)
theorem anx_250 (Hy : Hyx tys cA base adS Ex) : xall (fun b t => xOK l Dg clx tys cA flx ftx base adS GWx xyx xcx xnx xrx Ex codex bmx bpx b t) 4 120 128 codex_250 :=
  And.intro (anx_242 Hy) (anx_249 Hy)
theorem anx_251 (Hy : Hyx tys cA base adS Ex) : xall (fun b t => xOK l Dg clx tys cA flx ftx base adS GWx xyx xcx xnx xrx Ex codex bmx bpx b t) 5 56 64 codex_251 :=
  And.intro (anx_235 Hy) (anx_250 Hy)
theorem anx_252 (Hy : Hyx tys cA base adS Ex) : xall (fun b t => xOK l Dg clx tys cA flx ftx base adS GWx xyx xcx xnx xrx Ex codex bmx bpx b t) 6 24 32 codex_252 :=
  And.intro (anx_220 Hy) (anx_251 Hy)
theorem anx_253 (Hy : Hyx tys cA base adS Ex) : xall (fun b t => xOK l Dg clx tys cA flx ftx base adS GWx xyx xcx xnx xrx Ex codex bmx bpx b t) 7 8 16 codex_253 :=
  And.intro (anx_189 Hy) (anx_252 Hy)
theorem anx_254 (Hy : Hyx tys cA base adS Ex) : xall (fun b t => xOK l Dg clx tys cA flx ftx base adS GWx xyx xcx xnx xrx Ex codex bmx bpx b t) 8 0 8 codex_254 :=
  And.intro (anx_126 Hy) (anx_253 Hy)
theorem anx_255 (Hy : Hyx tys cA base adS Ex) : xall (fun b t => xOK l Dg clx tys cA flx ftx base adS GWx xyx xcx xnx xrx Ex codex bmx bpx b t) 1 4 1024 codex_255 :=
  And.intro (okx_4 Hy) (okx_1028 Hy)
theorem anx_256 (Hy : Hyx tys cA base adS Ex) : xall (fun b t => xOK l Dg clx tys cA flx ftx base adS GWx xyx xcx xnx xrx Ex codex bmx bpx b t) 1 516 1024 codex_256 :=
  And.intro (okx_516 Hy) (okzx 1540)
theorem anx_257 (Hy : Hyx tys cA base adS Ex) : xall (fun b t => xOK l Dg clx tys cA flx ftx base adS GWx xyx xcx xnx xrx Ex codex bmx bpx b t) 2 4 512 codex_257 :=
  And.intro (anx_255 Hy) (anx_256 Hy)
theorem anx_258 (Hy : Hyx tys cA base adS Ex) : xall (fun b t => xOK l Dg clx tys cA flx ftx base adS GWx xyx xcx xnx xrx Ex codex bmx bpx b t) 1 260 1024 codex_258 :=
  And.intro (okx_260 Hy) (okzx 1284)
theorem anx_259 (Hy : Hyx tys cA base adS Ex) : xall (fun b t => xOK l Dg clx tys cA flx ftx base adS GWx xyx xcx xnx xrx Ex codex bmx bpx b t) 1 772 1024 codex_259 :=
  And.intro (okx_772 Hy) (okzx 1796)
theorem anx_260 (Hy : Hyx tys cA base adS Ex) : xall (fun b t => xOK l Dg clx tys cA flx ftx base adS GWx xyx xcx xnx xrx Ex codex bmx bpx b t) 2 260 512 codex_260 :=
  And.intro (anx_258 Hy) (anx_259 Hy)
theorem anx_261 (Hy : Hyx tys cA base adS Ex) : xall (fun b t => xOK l Dg clx tys cA flx ftx base adS GWx xyx xcx xnx xrx Ex codex bmx bpx b t) 3 4 256 codex_261 :=
  And.intro (anx_257 Hy) (anx_260 Hy)
theorem anx_262 (Hy : Hyx tys cA base adS Ex) : xall (fun b t => xOK l Dg clx tys cA flx ftx base adS GWx xyx xcx xnx xrx Ex codex bmx bpx b t) 1 132 1024 codex_262 :=
  And.intro (okx_132 Hy) (okx_1156 Hy)
theorem anx_263 (Hy : Hyx tys cA base adS Ex) : xall (fun b t => xOK l Dg clx tys cA flx ftx base adS GWx xyx xcx xnx xrx Ex codex bmx bpx b t) 1 644 1024 codex_263 :=
  And.intro (okx_644 Hy) (okzx 1668)
theorem anx_264 (Hy : Hyx tys cA base adS Ex) : xall (fun b t => xOK l Dg clx tys cA flx ftx base adS GWx xyx xcx xnx xrx Ex codex bmx bpx b t) 2 132 512 codex_264 :=
  And.intro (anx_262 Hy) (anx_263 Hy)
theorem anx_265 (Hy : Hyx tys cA base adS Ex) : xall (fun b t => xOK l Dg clx tys cA flx ftx base adS GWx xyx xcx xnx xrx Ex codex bmx bpx b t) 1 388 1024 codex_265 :=
  And.intro (okx_388 Hy) (okzx 1412)
theorem anx_266 (Hy : Hyx tys cA base adS Ex) : xall (fun b t => xOK l Dg clx tys cA flx ftx base adS GWx xyx xcx xnx xrx Ex codex bmx bpx b t) 1 900 1024 codex_266 :=
  And.intro (okx_900 Hy) (okzx 1924)
theorem anx_267 (Hy : Hyx tys cA base adS Ex) : xall (fun b t => xOK l Dg clx tys cA flx ftx base adS GWx xyx xcx xnx xrx Ex codex bmx bpx b t) 2 388 512 codex_267 :=
  And.intro (anx_265 Hy) (anx_266 Hy)
theorem anx_268 (Hy : Hyx tys cA base adS Ex) : xall (fun b t => xOK l Dg clx tys cA flx ftx base adS GWx xyx xcx xnx xrx Ex codex bmx bpx b t) 3 132 256 codex_268 :=
  And.intro (anx_264 Hy) (anx_267 Hy)
theorem anx_269 (Hy : Hyx tys cA base adS Ex) : xall (fun b t => xOK l Dg clx tys cA flx ftx base adS GWx xyx xcx xnx xrx Ex codex bmx bpx b t) 4 4 128 codex_269 :=
  And.intro (anx_261 Hy) (anx_268 Hy)
theorem anx_270 (Hy : Hyx tys cA base adS Ex) : xall (fun b t => xOK l Dg clx tys cA flx ftx base adS GWx xyx xcx xnx xrx Ex codex bmx bpx b t) 1 68 1024 codex_270 :=
  And.intro (okx_68 Hy) (okx_1092 Hy)
theorem anx_271 (Hy : Hyx tys cA base adS Ex) : xall (fun b t => xOK l Dg clx tys cA flx ftx base adS GWx xyx xcx xnx xrx Ex codex bmx bpx b t) 1 580 1024 codex_271 :=
  And.intro (okx_580 Hy) (okzx 1604)
theorem anx_272 (Hy : Hyx tys cA base adS Ex) : xall (fun b t => xOK l Dg clx tys cA flx ftx base adS GWx xyx xcx xnx xrx Ex codex bmx bpx b t) 2 68 512 codex_272 :=
  And.intro (anx_270 Hy) (anx_271 Hy)
theorem anx_273 (Hy : Hyx tys cA base adS Ex) : xall (fun b t => xOK l Dg clx tys cA flx ftx base adS GWx xyx xcx xnx xrx Ex codex bmx bpx b t) 1 324 1024 codex_273 :=
  And.intro (okx_324 Hy) (okzx 1348)
theorem anx_274 (Hy : Hyx tys cA base adS Ex) : xall (fun b t => xOK l Dg clx tys cA flx ftx base adS GWx xyx xcx xnx xrx Ex codex bmx bpx b t) 1 836 1024 codex_274 :=
  And.intro (okx_836 Hy) (okzx 1860)
theorem anx_275 (Hy : Hyx tys cA base adS Ex) : xall (fun b t => xOK l Dg clx tys cA flx ftx base adS GWx xyx xcx xnx xrx Ex codex bmx bpx b t) 2 324 512 codex_275 :=
  And.intro (anx_273 Hy) (anx_274 Hy)
theorem anx_276 (Hy : Hyx tys cA base adS Ex) : xall (fun b t => xOK l Dg clx tys cA flx ftx base adS GWx xyx xcx xnx xrx Ex codex bmx bpx b t) 3 68 256 codex_276 :=
  And.intro (anx_272 Hy) (anx_275 Hy)
theorem anx_277 (Hy : Hyx tys cA base adS Ex) : xall (fun b t => xOK l Dg clx tys cA flx ftx base adS GWx xyx xcx xnx xrx Ex codex bmx bpx b t) 1 196 1024 codex_277 :=
  And.intro (okx_196 Hy) (okzx 1220)
theorem anx_278 (Hy : Hyx tys cA base adS Ex) : xall (fun b t => xOK l Dg clx tys cA flx ftx base adS GWx xyx xcx xnx xrx Ex codex bmx bpx b t) 1 708 1024 codex_278 :=
  And.intro (okx_708 Hy) (okzx 1732)
theorem anx_279 (Hy : Hyx tys cA base adS Ex) : xall (fun b t => xOK l Dg clx tys cA flx ftx base adS GWx xyx xcx xnx xrx Ex codex bmx bpx b t) 2 196 512 codex_279 :=
  And.intro (anx_277 Hy) (anx_278 Hy)
theorem anx_280 (Hy : Hyx tys cA base adS Ex) : xall (fun b t => xOK l Dg clx tys cA flx ftx base adS GWx xyx xcx xnx xrx Ex codex bmx bpx b t) 1 452 1024 codex_280 :=
  And.intro (okx_452 Hy) (okzx 1476)
theorem anx_281 (Hy : Hyx tys cA base adS Ex) : xall (fun b t => xOK l Dg clx tys cA flx ftx base adS GWx xyx xcx xnx xrx Ex codex bmx bpx b t) 1 964 1024 codex_281 :=
  And.intro (okx_964 Hy) (okzx 1988)
theorem anx_282 (Hy : Hyx tys cA base adS Ex) : xall (fun b t => xOK l Dg clx tys cA flx ftx base adS GWx xyx xcx xnx xrx Ex codex bmx bpx b t) 2 452 512 codex_282 :=
  And.intro (anx_280 Hy) (anx_281 Hy)
theorem anx_283 (Hy : Hyx tys cA base adS Ex) : xall (fun b t => xOK l Dg clx tys cA flx ftx base adS GWx xyx xcx xnx xrx Ex codex bmx bpx b t) 3 196 256 codex_283 :=
  And.intro (anx_279 Hy) (anx_282 Hy)
theorem anx_284 (Hy : Hyx tys cA base adS Ex) : xall (fun b t => xOK l Dg clx tys cA flx ftx base adS GWx xyx xcx xnx xrx Ex codex bmx bpx b t) 4 68 128 codex_284 :=
  And.intro (anx_276 Hy) (anx_283 Hy)
theorem anx_285 (Hy : Hyx tys cA base adS Ex) : xall (fun b t => xOK l Dg clx tys cA flx ftx base adS GWx xyx xcx xnx xrx Ex codex bmx bpx b t) 5 4 64 codex_285 :=
  And.intro (anx_269 Hy) (anx_284 Hy)
theorem anx_286 (Hy : Hyx tys cA base adS Ex) : xall (fun b t => xOK l Dg clx tys cA flx ftx base adS GWx xyx xcx xnx xrx Ex codex bmx bpx b t) 1 36 1024 codex_286 :=
  And.intro (okx_36 Hy) (okx_1060 Hy)
theorem anx_287 (Hy : Hyx tys cA base adS Ex) : xall (fun b t => xOK l Dg clx tys cA flx ftx base adS GWx xyx xcx xnx xrx Ex codex bmx bpx b t) 1 548 1024 codex_287 :=
  And.intro (okx_548 Hy) (okzx 1572)
theorem anx_288 (Hy : Hyx tys cA base adS Ex) : xall (fun b t => xOK l Dg clx tys cA flx ftx base adS GWx xyx xcx xnx xrx Ex codex bmx bpx b t) 2 36 512 codex_288 :=
  And.intro (anx_286 Hy) (anx_287 Hy)
theorem anx_289 (Hy : Hyx tys cA base adS Ex) : xall (fun b t => xOK l Dg clx tys cA flx ftx base adS GWx xyx xcx xnx xrx Ex codex bmx bpx b t) 1 292 1024 codex_289 :=
  And.intro (okx_292 Hy) (okzx 1316)
theorem anx_290 (Hy : Hyx tys cA base adS Ex) : xall (fun b t => xOK l Dg clx tys cA flx ftx base adS GWx xyx xcx xnx xrx Ex codex bmx bpx b t) 1 804 1024 codex_290 :=
  And.intro (okx_804 Hy) (okzx 1828)
theorem anx_291 (Hy : Hyx tys cA base adS Ex) : xall (fun b t => xOK l Dg clx tys cA flx ftx base adS GWx xyx xcx xnx xrx Ex codex bmx bpx b t) 2 292 512 codex_291 :=
  And.intro (anx_289 Hy) (anx_290 Hy)
theorem anx_292 (Hy : Hyx tys cA base adS Ex) : xall (fun b t => xOK l Dg clx tys cA flx ftx base adS GWx xyx xcx xnx xrx Ex codex bmx bpx b t) 3 36 256 codex_292 :=
  And.intro (anx_288 Hy) (anx_291 Hy)
theorem anx_293 (Hy : Hyx tys cA base adS Ex) : xall (fun b t => xOK l Dg clx tys cA flx ftx base adS GWx xyx xcx xnx xrx Ex codex bmx bpx b t) 1 164 1024 codex_293 :=
  And.intro (okx_164 Hy) (okx_1188 Hy)
theorem anx_294 (Hy : Hyx tys cA base adS Ex) : xall (fun b t => xOK l Dg clx tys cA flx ftx base adS GWx xyx xcx xnx xrx Ex codex bmx bpx b t) 1 676 1024 codex_294 :=
  And.intro (okx_676 Hy) (okzx 1700)
theorem anx_295 (Hy : Hyx tys cA base adS Ex) : xall (fun b t => xOK l Dg clx tys cA flx ftx base adS GWx xyx xcx xnx xrx Ex codex bmx bpx b t) 2 164 512 codex_295 :=
  And.intro (anx_293 Hy) (anx_294 Hy)
theorem anx_296 (Hy : Hyx tys cA base adS Ex) : xall (fun b t => xOK l Dg clx tys cA flx ftx base adS GWx xyx xcx xnx xrx Ex codex bmx bpx b t) 1 420 1024 codex_296 :=
  And.intro (okx_420 Hy) (okzx 1444)
theorem anx_297 (Hy : Hyx tys cA base adS Ex) : xall (fun b t => xOK l Dg clx tys cA flx ftx base adS GWx xyx xcx xnx xrx Ex codex bmx bpx b t) 1 932 1024 codex_297 :=
  And.intro (okx_932 Hy) (okzx 1956)
theorem anx_298 (Hy : Hyx tys cA base adS Ex) : xall (fun b t => xOK l Dg clx tys cA flx ftx base adS GWx xyx xcx xnx xrx Ex codex bmx bpx b t) 2 420 512 codex_298 :=
  And.intro (anx_296 Hy) (anx_297 Hy)
theorem anx_299 (Hy : Hyx tys cA base adS Ex) : xall (fun b t => xOK l Dg clx tys cA flx ftx base adS GWx xyx xcx xnx xrx Ex codex bmx bpx b t) 3 164 256 codex_299 :=
  And.intro (anx_295 Hy) (anx_298 Hy)
theorem anx_300 (Hy : Hyx tys cA base adS Ex) : xall (fun b t => xOK l Dg clx tys cA flx ftx base adS GWx xyx xcx xnx xrx Ex codex bmx bpx b t) 4 36 128 codex_300 :=
  And.intro (anx_292 Hy) (anx_299 Hy)
theorem anx_301 (Hy : Hyx tys cA base adS Ex) : xall (fun b t => xOK l Dg clx tys cA flx ftx base adS GWx xyx xcx xnx xrx Ex codex bmx bpx b t) 1 100 1024 codex_301 :=
  And.intro (okx_100 Hy) (okx_1124 Hy)
theorem anx_302 (Hy : Hyx tys cA base adS Ex) : xall (fun b t => xOK l Dg clx tys cA flx ftx base adS GWx xyx xcx xnx xrx Ex codex bmx bpx b t) 1 612 1024 codex_302 :=
  And.intro (okx_612 Hy) (okzx 1636)
theorem anx_303 (Hy : Hyx tys cA base adS Ex) : xall (fun b t => xOK l Dg clx tys cA flx ftx base adS GWx xyx xcx xnx xrx Ex codex bmx bpx b t) 2 100 512 codex_303 :=
  And.intro (anx_301 Hy) (anx_302 Hy)
theorem anx_304 (Hy : Hyx tys cA base adS Ex) : xall (fun b t => xOK l Dg clx tys cA flx ftx base adS GWx xyx xcx xnx xrx Ex codex bmx bpx b t) 1 356 1024 codex_304 :=
  And.intro (okx_356 Hy) (okzx 1380)
theorem anx_305 (Hy : Hyx tys cA base adS Ex) : xall (fun b t => xOK l Dg clx tys cA flx ftx base adS GWx xyx xcx xnx xrx Ex codex bmx bpx b t) 1 868 1024 codex_305 :=
  And.intro (okx_868 Hy) (okzx 1892)
theorem anx_306 (Hy : Hyx tys cA base adS Ex) : xall (fun b t => xOK l Dg clx tys cA flx ftx base adS GWx xyx xcx xnx xrx Ex codex bmx bpx b t) 2 356 512 codex_306 :=
  And.intro (anx_304 Hy) (anx_305 Hy)
theorem anx_307 (Hy : Hyx tys cA base adS Ex) : xall (fun b t => xOK l Dg clx tys cA flx ftx base adS GWx xyx xcx xnx xrx Ex codex bmx bpx b t) 3 100 256 codex_307 :=
  And.intro (anx_303 Hy) (anx_306 Hy)
theorem anx_308 (Hy : Hyx tys cA base adS Ex) : xall (fun b t => xOK l Dg clx tys cA flx ftx base adS GWx xyx xcx xnx xrx Ex codex bmx bpx b t) 1 228 1024 codex_308 :=
  And.intro (okx_228 Hy) (okzx 1252)
theorem anx_309 (Hy : Hyx tys cA base adS Ex) : xall (fun b t => xOK l Dg clx tys cA flx ftx base adS GWx xyx xcx xnx xrx Ex codex bmx bpx b t) 1 740 1024 codex_309 :=
  And.intro (okx_740 Hy) (okzx 1764)
theorem anx_310 (Hy : Hyx tys cA base adS Ex) : xall (fun b t => xOK l Dg clx tys cA flx ftx base adS GWx xyx xcx xnx xrx Ex codex bmx bpx b t) 2 228 512 codex_310 :=
  And.intro (anx_308 Hy) (anx_309 Hy)
theorem anx_311 (Hy : Hyx tys cA base adS Ex) : xall (fun b t => xOK l Dg clx tys cA flx ftx base adS GWx xyx xcx xnx xrx Ex codex bmx bpx b t) 1 484 1024 codex_311 :=
  And.intro (okx_484 Hy) (okzx 1508)
theorem anx_312 (Hy : Hyx tys cA base adS Ex) : xall (fun b t => xOK l Dg clx tys cA flx ftx base adS GWx xyx xcx xnx xrx Ex codex bmx bpx b t) 1 996 1024 codex_312 :=
  And.intro (okx_996 Hy) (okzx 2020)
theorem anx_313 (Hy : Hyx tys cA base adS Ex) : xall (fun b t => xOK l Dg clx tys cA flx ftx base adS GWx xyx xcx xnx xrx Ex codex bmx bpx b t) 2 484 512 codex_313 :=
  And.intro (anx_311 Hy) (anx_312 Hy)
theorem anx_314 (Hy : Hyx tys cA base adS Ex) : xall (fun b t => xOK l Dg clx tys cA flx ftx base adS GWx xyx xcx xnx xrx Ex codex bmx bpx b t) 3 228 256 codex_314 :=
  And.intro (anx_310 Hy) (anx_313 Hy)
theorem anx_315 (Hy : Hyx tys cA base adS Ex) : xall (fun b t => xOK l Dg clx tys cA flx ftx base adS GWx xyx xcx xnx xrx Ex codex bmx bpx b t) 4 100 128 codex_315 :=
  And.intro (anx_307 Hy) (anx_314 Hy)
theorem anx_316 (Hy : Hyx tys cA base adS Ex) : xall (fun b t => xOK l Dg clx tys cA flx ftx base adS GWx xyx xcx xnx xrx Ex codex bmx bpx b t) 5 36 64 codex_316 :=
  And.intro (anx_300 Hy) (anx_315 Hy)
theorem anx_317 (Hy : Hyx tys cA base adS Ex) : xall (fun b t => xOK l Dg clx tys cA flx ftx base adS GWx xyx xcx xnx xrx Ex codex bmx bpx b t) 6 4 32 codex_317 :=
  And.intro (anx_285 Hy) (anx_316 Hy)
theorem anx_318 (Hy : Hyx tys cA base adS Ex) : xall (fun b t => xOK l Dg clx tys cA flx ftx base adS GWx xyx xcx xnx xrx Ex codex bmx bpx b t) 1 20 1024 codex_318 :=
  And.intro (okx_20 Hy) (okx_1044 Hy)
theorem anx_319 (Hy : Hyx tys cA base adS Ex) : xall (fun b t => xOK l Dg clx tys cA flx ftx base adS GWx xyx xcx xnx xrx Ex codex bmx bpx b t) 1 532 1024 codex_319 :=
  And.intro (okx_532 Hy) (okzx 1556)
theorem anx_320 (Hy : Hyx tys cA base adS Ex) : xall (fun b t => xOK l Dg clx tys cA flx ftx base adS GWx xyx xcx xnx xrx Ex codex bmx bpx b t) 2 20 512 codex_320 :=
  And.intro (anx_318 Hy) (anx_319 Hy)
theorem anx_321 (Hy : Hyx tys cA base adS Ex) : xall (fun b t => xOK l Dg clx tys cA flx ftx base adS GWx xyx xcx xnx xrx Ex codex bmx bpx b t) 1 276 1024 codex_321 :=
  And.intro (okx_276 Hy) (okzx 1300)
theorem anx_322 (Hy : Hyx tys cA base adS Ex) : xall (fun b t => xOK l Dg clx tys cA flx ftx base adS GWx xyx xcx xnx xrx Ex codex bmx bpx b t) 1 788 1024 codex_322 :=
  And.intro (okx_788 Hy) (okzx 1812)
theorem anx_323 (Hy : Hyx tys cA base adS Ex) : xall (fun b t => xOK l Dg clx tys cA flx ftx base adS GWx xyx xcx xnx xrx Ex codex bmx bpx b t) 2 276 512 codex_323 :=
  And.intro (anx_321 Hy) (anx_322 Hy)
theorem anx_324 (Hy : Hyx tys cA base adS Ex) : xall (fun b t => xOK l Dg clx tys cA flx ftx base adS GWx xyx xcx xnx xrx Ex codex bmx bpx b t) 3 20 256 codex_324 :=
  And.intro (anx_320 Hy) (anx_323 Hy)
theorem anx_325 (Hy : Hyx tys cA base adS Ex) : xall (fun b t => xOK l Dg clx tys cA flx ftx base adS GWx xyx xcx xnx xrx Ex codex bmx bpx b t) 1 148 1024 codex_325 :=
  And.intro (okx_148 Hy) (okx_1172 Hy)
theorem anx_326 (Hy : Hyx tys cA base adS Ex) : xall (fun b t => xOK l Dg clx tys cA flx ftx base adS GWx xyx xcx xnx xrx Ex codex bmx bpx b t) 1 660 1024 codex_326 :=
  And.intro (okx_660 Hy) (okzx 1684)
theorem anx_327 (Hy : Hyx tys cA base adS Ex) : xall (fun b t => xOK l Dg clx tys cA flx ftx base adS GWx xyx xcx xnx xrx Ex codex bmx bpx b t) 2 148 512 codex_327 :=
  And.intro (anx_325 Hy) (anx_326 Hy)
theorem anx_328 (Hy : Hyx tys cA base adS Ex) : xall (fun b t => xOK l Dg clx tys cA flx ftx base adS GWx xyx xcx xnx xrx Ex codex bmx bpx b t) 1 404 1024 codex_328 :=
  And.intro (okx_404 Hy) (okzx 1428)
theorem anx_329 (Hy : Hyx tys cA base adS Ex) : xall (fun b t => xOK l Dg clx tys cA flx ftx base adS GWx xyx xcx xnx xrx Ex codex bmx bpx b t) 1 916 1024 codex_329 :=
  And.intro (okx_916 Hy) (okzx 1940)
theorem anx_330 (Hy : Hyx tys cA base adS Ex) : xall (fun b t => xOK l Dg clx tys cA flx ftx base adS GWx xyx xcx xnx xrx Ex codex bmx bpx b t) 2 404 512 codex_330 :=
  And.intro (anx_328 Hy) (anx_329 Hy)
theorem anx_331 (Hy : Hyx tys cA base adS Ex) : xall (fun b t => xOK l Dg clx tys cA flx ftx base adS GWx xyx xcx xnx xrx Ex codex bmx bpx b t) 3 148 256 codex_331 :=
  And.intro (anx_327 Hy) (anx_330 Hy)
theorem anx_332 (Hy : Hyx tys cA base adS Ex) : xall (fun b t => xOK l Dg clx tys cA flx ftx base adS GWx xyx xcx xnx xrx Ex codex bmx bpx b t) 4 20 128 codex_332 :=
  And.intro (anx_324 Hy) (anx_331 Hy)
theorem anx_333 (Hy : Hyx tys cA base adS Ex) : xall (fun b t => xOK l Dg clx tys cA flx ftx base adS GWx xyx xcx xnx xrx Ex codex bmx bpx b t) 1 84 1024 codex_333 :=
  And.intro (okx_84 Hy) (okx_1108 Hy)
theorem anx_334 (Hy : Hyx tys cA base adS Ex) : xall (fun b t => xOK l Dg clx tys cA flx ftx base adS GWx xyx xcx xnx xrx Ex codex bmx bpx b t) 1 596 1024 codex_334 :=
  And.intro (okx_596 Hy) (okzx 1620)
theorem anx_335 (Hy : Hyx tys cA base adS Ex) : xall (fun b t => xOK l Dg clx tys cA flx ftx base adS GWx xyx xcx xnx xrx Ex codex bmx bpx b t) 2 84 512 codex_335 :=
  And.intro (anx_333 Hy) (anx_334 Hy)
theorem anx_336 (Hy : Hyx tys cA base adS Ex) : xall (fun b t => xOK l Dg clx tys cA flx ftx base adS GWx xyx xcx xnx xrx Ex codex bmx bpx b t) 1 340 1024 codex_336 :=
  And.intro (okx_340 Hy) (okzx 1364)
theorem anx_337 (Hy : Hyx tys cA base adS Ex) : xall (fun b t => xOK l Dg clx tys cA flx ftx base adS GWx xyx xcx xnx xrx Ex codex bmx bpx b t) 1 852 1024 codex_337 :=
  And.intro (okx_852 Hy) (okzx 1876)
theorem anx_338 (Hy : Hyx tys cA base adS Ex) : xall (fun b t => xOK l Dg clx tys cA flx ftx base adS GWx xyx xcx xnx xrx Ex codex bmx bpx b t) 2 340 512 codex_338 :=
  And.intro (anx_336 Hy) (anx_337 Hy)
theorem anx_339 (Hy : Hyx tys cA base adS Ex) : xall (fun b t => xOK l Dg clx tys cA flx ftx base adS GWx xyx xcx xnx xrx Ex codex bmx bpx b t) 3 84 256 codex_339 :=
  And.intro (anx_335 Hy) (anx_338 Hy)
theorem anx_340 (Hy : Hyx tys cA base adS Ex) : xall (fun b t => xOK l Dg clx tys cA flx ftx base adS GWx xyx xcx xnx xrx Ex codex bmx bpx b t) 1 212 1024 codex_340 :=
  And.intro (okx_212 Hy) (okzx 1236)
theorem anx_341 (Hy : Hyx tys cA base adS Ex) : xall (fun b t => xOK l Dg clx tys cA flx ftx base adS GWx xyx xcx xnx xrx Ex codex bmx bpx b t) 1 724 1024 codex_341 :=
  And.intro (okx_724 Hy) (okzx 1748)
theorem anx_342 (Hy : Hyx tys cA base adS Ex) : xall (fun b t => xOK l Dg clx tys cA flx ftx base adS GWx xyx xcx xnx xrx Ex codex bmx bpx b t) 2 212 512 codex_342 :=
  And.intro (anx_340 Hy) (anx_341 Hy)
theorem anx_343 (Hy : Hyx tys cA base adS Ex) : xall (fun b t => xOK l Dg clx tys cA flx ftx base adS GWx xyx xcx xnx xrx Ex codex bmx bpx b t) 1 468 1024 codex_343 :=
  And.intro (okx_468 Hy) (okzx 1492)
theorem anx_344 (Hy : Hyx tys cA base adS Ex) : xall (fun b t => xOK l Dg clx tys cA flx ftx base adS GWx xyx xcx xnx xrx Ex codex bmx bpx b t) 1 980 1024 codex_344 :=
  And.intro (okx_980 Hy) (okzx 2004)
theorem anx_345 (Hy : Hyx tys cA base adS Ex) : xall (fun b t => xOK l Dg clx tys cA flx ftx base adS GWx xyx xcx xnx xrx Ex codex bmx bpx b t) 2 468 512 codex_345 :=
  And.intro (anx_343 Hy) (anx_344 Hy)
theorem anx_346 (Hy : Hyx tys cA base adS Ex) : xall (fun b t => xOK l Dg clx tys cA flx ftx base adS GWx xyx xcx xnx xrx Ex codex bmx bpx b t) 3 212 256 codex_346 :=
  And.intro (anx_342 Hy) (anx_345 Hy)
theorem anx_347 (Hy : Hyx tys cA base adS Ex) : xall (fun b t => xOK l Dg clx tys cA flx ftx base adS GWx xyx xcx xnx xrx Ex codex bmx bpx b t) 4 84 128 codex_347 :=
  And.intro (anx_339 Hy) (anx_346 Hy)
theorem anx_348 (Hy : Hyx tys cA base adS Ex) : xall (fun b t => xOK l Dg clx tys cA flx ftx base adS GWx xyx xcx xnx xrx Ex codex bmx bpx b t) 5 20 64 codex_348 :=
  And.intro (anx_332 Hy) (anx_347 Hy)
theorem anx_349 (Hy : Hyx tys cA base adS Ex) : xall (fun b t => xOK l Dg clx tys cA flx ftx base adS GWx xyx xcx xnx xrx Ex codex bmx bpx b t) 1 52 1024 codex_349 :=
  And.intro (okx_52 Hy) (okx_1076 Hy)
theorem anx_350 (Hy : Hyx tys cA base adS Ex) : xall (fun b t => xOK l Dg clx tys cA flx ftx base adS GWx xyx xcx xnx xrx Ex codex bmx bpx b t) 1 564 1024 codex_350 :=
  And.intro (okx_564 Hy) (okzx 1588)
theorem anx_351 (Hy : Hyx tys cA base adS Ex) : xall (fun b t => xOK l Dg clx tys cA flx ftx base adS GWx xyx xcx xnx xrx Ex codex bmx bpx b t) 2 52 512 codex_351 :=
  And.intro (anx_349 Hy) (anx_350 Hy)
theorem anx_352 (Hy : Hyx tys cA base adS Ex) : xall (fun b t => xOK l Dg clx tys cA flx ftx base adS GWx xyx xcx xnx xrx Ex codex bmx bpx b t) 1 308 1024 codex_352 :=
  And.intro (okx_308 Hy) (okzx 1332)
theorem anx_353 (Hy : Hyx tys cA base adS Ex) : xall (fun b t => xOK l Dg clx tys cA flx ftx base adS GWx xyx xcx xnx xrx Ex codex bmx bpx b t) 1 820 1024 codex_353 :=
  And.intro (okx_820 Hy) (okzx 1844)
theorem anx_354 (Hy : Hyx tys cA base adS Ex) : xall (fun b t => xOK l Dg clx tys cA flx ftx base adS GWx xyx xcx xnx xrx Ex codex bmx bpx b t) 2 308 512 codex_354 :=
  And.intro (anx_352 Hy) (anx_353 Hy)
theorem anx_355 (Hy : Hyx tys cA base adS Ex) : xall (fun b t => xOK l Dg clx tys cA flx ftx base adS GWx xyx xcx xnx xrx Ex codex bmx bpx b t) 3 52 256 codex_355 :=
  And.intro (anx_351 Hy) (anx_354 Hy)
theorem anx_356 (Hy : Hyx tys cA base adS Ex) : xall (fun b t => xOK l Dg clx tys cA flx ftx base adS GWx xyx xcx xnx xrx Ex codex bmx bpx b t) 1 180 1024 codex_356 :=
  And.intro (okx_180 Hy) (okzx 1204)
theorem anx_357 (Hy : Hyx tys cA base adS Ex) : xall (fun b t => xOK l Dg clx tys cA flx ftx base adS GWx xyx xcx xnx xrx Ex codex bmx bpx b t) 1 692 1024 codex_357 :=
  And.intro (okx_692 Hy) (okzx 1716)
theorem anx_358 (Hy : Hyx tys cA base adS Ex) : xall (fun b t => xOK l Dg clx tys cA flx ftx base adS GWx xyx xcx xnx xrx Ex codex bmx bpx b t) 2 180 512 codex_358 :=
  And.intro (anx_356 Hy) (anx_357 Hy)
theorem anx_359 (Hy : Hyx tys cA base adS Ex) : xall (fun b t => xOK l Dg clx tys cA flx ftx base adS GWx xyx xcx xnx xrx Ex codex bmx bpx b t) 1 436 1024 codex_359 :=
  And.intro (okx_436 Hy) (okzx 1460)
theorem anx_360 (Hy : Hyx tys cA base adS Ex) : xall (fun b t => xOK l Dg clx tys cA flx ftx base adS GWx xyx xcx xnx xrx Ex codex bmx bpx b t) 1 948 1024 codex_360 :=
  And.intro (okx_948 Hy) (okzx 1972)
theorem anx_361 (Hy : Hyx tys cA base adS Ex) : xall (fun b t => xOK l Dg clx tys cA flx ftx base adS GWx xyx xcx xnx xrx Ex codex bmx bpx b t) 2 436 512 codex_361 :=
  And.intro (anx_359 Hy) (anx_360 Hy)
theorem anx_362 (Hy : Hyx tys cA base adS Ex) : xall (fun b t => xOK l Dg clx tys cA flx ftx base adS GWx xyx xcx xnx xrx Ex codex bmx bpx b t) 3 180 256 codex_362 :=
  And.intro (anx_358 Hy) (anx_361 Hy)
theorem anx_363 (Hy : Hyx tys cA base adS Ex) : xall (fun b t => xOK l Dg clx tys cA flx ftx base adS GWx xyx xcx xnx xrx Ex codex bmx bpx b t) 4 52 128 codex_363 :=
  And.intro (anx_355 Hy) (anx_362 Hy)
theorem anx_364 (Hy : Hyx tys cA base adS Ex) : xall (fun b t => xOK l Dg clx tys cA flx ftx base adS GWx xyx xcx xnx xrx Ex codex bmx bpx b t) 1 116 1024 codex_364 :=
  And.intro (okx_116 Hy) (okx_1140 Hy)
theorem anx_365 (Hy : Hyx tys cA base adS Ex) : xall (fun b t => xOK l Dg clx tys cA flx ftx base adS GWx xyx xcx xnx xrx Ex codex bmx bpx b t) 1 628 1024 codex_365 :=
  And.intro (okx_628 Hy) (okzx 1652)
theorem anx_366 (Hy : Hyx tys cA base adS Ex) : xall (fun b t => xOK l Dg clx tys cA flx ftx base adS GWx xyx xcx xnx xrx Ex codex bmx bpx b t) 2 116 512 codex_366 :=
  And.intro (anx_364 Hy) (anx_365 Hy)
theorem anx_367 (Hy : Hyx tys cA base adS Ex) : xall (fun b t => xOK l Dg clx tys cA flx ftx base adS GWx xyx xcx xnx xrx Ex codex bmx bpx b t) 1 372 1024 codex_367 :=
  And.intro (okx_372 Hy) (okzx 1396)
theorem anx_368 (Hy : Hyx tys cA base adS Ex) : xall (fun b t => xOK l Dg clx tys cA flx ftx base adS GWx xyx xcx xnx xrx Ex codex bmx bpx b t) 1 884 1024 codex_368 :=
  And.intro (okx_884 Hy) (okzx 1908)
theorem anx_369 (Hy : Hyx tys cA base adS Ex) : xall (fun b t => xOK l Dg clx tys cA flx ftx base adS GWx xyx xcx xnx xrx Ex codex bmx bpx b t) 2 372 512 codex_369 :=
  And.intro (anx_367 Hy) (anx_368 Hy)
theorem anx_370 (Hy : Hyx tys cA base adS Ex) : xall (fun b t => xOK l Dg clx tys cA flx ftx base adS GWx xyx xcx xnx xrx Ex codex bmx bpx b t) 3 116 256 codex_370 :=
  And.intro (anx_366 Hy) (anx_369 Hy)
theorem anx_371 (Hy : Hyx tys cA base adS Ex) : xall (fun b t => xOK l Dg clx tys cA flx ftx base adS GWx xyx xcx xnx xrx Ex codex bmx bpx b t) 1 244 1024 codex_371 :=
  And.intro (okx_244 Hy) (okzx 1268)
theorem anx_372 (Hy : Hyx tys cA base adS Ex) : xall (fun b t => xOK l Dg clx tys cA flx ftx base adS GWx xyx xcx xnx xrx Ex codex bmx bpx b t) 1 756 1024 codex_372 :=
  And.intro (okx_756 Hy) (okzx 1780)
theorem anx_373 (Hy : Hyx tys cA base adS Ex) : xall (fun b t => xOK l Dg clx tys cA flx ftx base adS GWx xyx xcx xnx xrx Ex codex bmx bpx b t) 2 244 512 codex_373 :=
  And.intro (anx_371 Hy) (anx_372 Hy)
theorem anx_374 (Hy : Hyx tys cA base adS Ex) : xall (fun b t => xOK l Dg clx tys cA flx ftx base adS GWx xyx xcx xnx xrx Ex codex bmx bpx b t) 1 500 1024 codex_374 :=
  And.intro (okx_500 Hy) (okzx 1524)
theorem anx_375 (Hy : Hyx tys cA base adS Ex) : xall (fun b t => xOK l Dg clx tys cA flx ftx base adS GWx xyx xcx xnx xrx Ex codex bmx bpx b t) 1 1012 1024 codex_375 :=
  And.intro (okx_1012 Hy) (okzx 2036)
theorem anx_376 (Hy : Hyx tys cA base adS Ex) : xall (fun b t => xOK l Dg clx tys cA flx ftx base adS GWx xyx xcx xnx xrx Ex codex bmx bpx b t) 2 500 512 codex_376 :=
  And.intro (anx_374 Hy) (anx_375 Hy)
theorem anx_377 (Hy : Hyx tys cA base adS Ex) : xall (fun b t => xOK l Dg clx tys cA flx ftx base adS GWx xyx xcx xnx xrx Ex codex bmx bpx b t) 3 244 256 codex_377 :=
  And.intro (anx_373 Hy) (anx_376 Hy)
theorem anx_378 (Hy : Hyx tys cA base adS Ex) : xall (fun b t => xOK l Dg clx tys cA flx ftx base adS GWx xyx xcx xnx xrx Ex codex bmx bpx b t) 4 116 128 codex_378 :=
  And.intro (anx_370 Hy) (anx_377 Hy)
theorem anx_379 (Hy : Hyx tys cA base adS Ex) : xall (fun b t => xOK l Dg clx tys cA flx ftx base adS GWx xyx xcx xnx xrx Ex codex bmx bpx b t) 5 52 64 codex_379 :=
  And.intro (anx_363 Hy) (anx_378 Hy)
theorem anx_380 (Hy : Hyx tys cA base adS Ex) : xall (fun b t => xOK l Dg clx tys cA flx ftx base adS GWx xyx xcx xnx xrx Ex codex bmx bpx b t) 6 20 32 codex_380 :=
  And.intro (anx_348 Hy) (anx_379 Hy)
theorem anx_381 (Hy : Hyx tys cA base adS Ex) : xall (fun b t => xOK l Dg clx tys cA flx ftx base adS GWx xyx xcx xnx xrx Ex codex bmx bpx b t) 7 4 16 codex_381 :=
  And.intro (anx_317 Hy) (anx_380 Hy)
theorem anx_382 (Hy : Hyx tys cA base adS Ex) : xall (fun b t => xOK l Dg clx tys cA flx ftx base adS GWx xyx xcx xnx xrx Ex codex bmx bpx b t) 1 12 1024 codex_382 :=
  And.intro (okx_12 Hy) (okx_1036 Hy)
theorem anx_383 (Hy : Hyx tys cA base adS Ex) : xall (fun b t => xOK l Dg clx tys cA flx ftx base adS GWx xyx xcx xnx xrx Ex codex bmx bpx b t) 1 524 1024 codex_383 :=
  And.intro (okx_524 Hy) (okzx 1548)
theorem anx_384 (Hy : Hyx tys cA base adS Ex) : xall (fun b t => xOK l Dg clx tys cA flx ftx base adS GWx xyx xcx xnx xrx Ex codex bmx bpx b t) 2 12 512 codex_384 :=
  And.intro (anx_382 Hy) (anx_383 Hy)
theorem anx_385 (Hy : Hyx tys cA base adS Ex) : xall (fun b t => xOK l Dg clx tys cA flx ftx base adS GWx xyx xcx xnx xrx Ex codex bmx bpx b t) 1 268 1024 codex_385 :=
  And.intro (okx_268 Hy) (okzx 1292)
theorem anx_386 (Hy : Hyx tys cA base adS Ex) : xall (fun b t => xOK l Dg clx tys cA flx ftx base adS GWx xyx xcx xnx xrx Ex codex bmx bpx b t) 1 780 1024 codex_386 :=
  And.intro (okx_780 Hy) (okzx 1804)
theorem anx_387 (Hy : Hyx tys cA base adS Ex) : xall (fun b t => xOK l Dg clx tys cA flx ftx base adS GWx xyx xcx xnx xrx Ex codex bmx bpx b t) 2 268 512 codex_387 :=
  And.intro (anx_385 Hy) (anx_386 Hy)
theorem anx_388 (Hy : Hyx tys cA base adS Ex) : xall (fun b t => xOK l Dg clx tys cA flx ftx base adS GWx xyx xcx xnx xrx Ex codex bmx bpx b t) 3 12 256 codex_388 :=
  And.intro (anx_384 Hy) (anx_387 Hy)
theorem anx_389 (Hy : Hyx tys cA base adS Ex) : xall (fun b t => xOK l Dg clx tys cA flx ftx base adS GWx xyx xcx xnx xrx Ex codex bmx bpx b t) 1 140 1024 codex_389 :=
  And.intro (okx_140 Hy) (okx_1164 Hy)
theorem anx_390 (Hy : Hyx tys cA base adS Ex) : xall (fun b t => xOK l Dg clx tys cA flx ftx base adS GWx xyx xcx xnx xrx Ex codex bmx bpx b t) 1 652 1024 codex_390 :=
  And.intro (okx_652 Hy) (okzx 1676)
theorem anx_391 (Hy : Hyx tys cA base adS Ex) : xall (fun b t => xOK l Dg clx tys cA flx ftx base adS GWx xyx xcx xnx xrx Ex codex bmx bpx b t) 2 140 512 codex_391 :=
  And.intro (anx_389 Hy) (anx_390 Hy)
theorem anx_392 (Hy : Hyx tys cA base adS Ex) : xall (fun b t => xOK l Dg clx tys cA flx ftx base adS GWx xyx xcx xnx xrx Ex codex bmx bpx b t) 1 396 1024 codex_392 :=
  And.intro (okx_396 Hy) (okzx 1420)
theorem anx_393 (Hy : Hyx tys cA base adS Ex) : xall (fun b t => xOK l Dg clx tys cA flx ftx base adS GWx xyx xcx xnx xrx Ex codex bmx bpx b t) 1 908 1024 codex_393 :=
  And.intro (okx_908 Hy) (okzx 1932)
theorem anx_394 (Hy : Hyx tys cA base adS Ex) : xall (fun b t => xOK l Dg clx tys cA flx ftx base adS GWx xyx xcx xnx xrx Ex codex bmx bpx b t) 2 396 512 codex_394 :=
  And.intro (anx_392 Hy) (anx_393 Hy)
theorem anx_395 (Hy : Hyx tys cA base adS Ex) : xall (fun b t => xOK l Dg clx tys cA flx ftx base adS GWx xyx xcx xnx xrx Ex codex bmx bpx b t) 3 140 256 codex_395 :=
  And.intro (anx_391 Hy) (anx_394 Hy)
theorem anx_396 (Hy : Hyx tys cA base adS Ex) : xall (fun b t => xOK l Dg clx tys cA flx ftx base adS GWx xyx xcx xnx xrx Ex codex bmx bpx b t) 4 12 128 codex_396 :=
  And.intro (anx_388 Hy) (anx_395 Hy)
theorem anx_397 (Hy : Hyx tys cA base adS Ex) : xall (fun b t => xOK l Dg clx tys cA flx ftx base adS GWx xyx xcx xnx xrx Ex codex bmx bpx b t) 1 76 1024 codex_397 :=
  And.intro (okx_76 Hy) (okx_1100 Hy)
theorem anx_398 (Hy : Hyx tys cA base adS Ex) : xall (fun b t => xOK l Dg clx tys cA flx ftx base adS GWx xyx xcx xnx xrx Ex codex bmx bpx b t) 1 588 1024 codex_398 :=
  And.intro (okx_588 Hy) (okzx 1612)
theorem anx_399 (Hy : Hyx tys cA base adS Ex) : xall (fun b t => xOK l Dg clx tys cA flx ftx base adS GWx xyx xcx xnx xrx Ex codex bmx bpx b t) 2 76 512 codex_399 :=
  And.intro (anx_397 Hy) (anx_398 Hy)
theorem anx_400 (Hy : Hyx tys cA base adS Ex) : xall (fun b t => xOK l Dg clx tys cA flx ftx base adS GWx xyx xcx xnx xrx Ex codex bmx bpx b t) 1 332 1024 codex_400 :=
  And.intro (okx_332 Hy) (okzx 1356)
theorem anx_401 (Hy : Hyx tys cA base adS Ex) : xall (fun b t => xOK l Dg clx tys cA flx ftx base adS GWx xyx xcx xnx xrx Ex codex bmx bpx b t) 1 844 1024 codex_401 :=
  And.intro (okx_844 Hy) (okzx 1868)
theorem anx_402 (Hy : Hyx tys cA base adS Ex) : xall (fun b t => xOK l Dg clx tys cA flx ftx base adS GWx xyx xcx xnx xrx Ex codex bmx bpx b t) 2 332 512 codex_402 :=
  And.intro (anx_400 Hy) (anx_401 Hy)
theorem anx_403 (Hy : Hyx tys cA base adS Ex) : xall (fun b t => xOK l Dg clx tys cA flx ftx base adS GWx xyx xcx xnx xrx Ex codex bmx bpx b t) 3 76 256 codex_403 :=
  And.intro (anx_399 Hy) (anx_402 Hy)
theorem anx_404 (Hy : Hyx tys cA base adS Ex) : xall (fun b t => xOK l Dg clx tys cA flx ftx base adS GWx xyx xcx xnx xrx Ex codex bmx bpx b t) 1 204 1024 codex_404 :=
  And.intro (okx_204 Hy) (okzx 1228)
theorem anx_405 (Hy : Hyx tys cA base adS Ex) : xall (fun b t => xOK l Dg clx tys cA flx ftx base adS GWx xyx xcx xnx xrx Ex codex bmx bpx b t) 1 716 1024 codex_405 :=
  And.intro (okx_716 Hy) (okzx 1740)
theorem anx_406 (Hy : Hyx tys cA base adS Ex) : xall (fun b t => xOK l Dg clx tys cA flx ftx base adS GWx xyx xcx xnx xrx Ex codex bmx bpx b t) 2 204 512 codex_406 :=
  And.intro (anx_404 Hy) (anx_405 Hy)
theorem anx_407 (Hy : Hyx tys cA base adS Ex) : xall (fun b t => xOK l Dg clx tys cA flx ftx base adS GWx xyx xcx xnx xrx Ex codex bmx bpx b t) 1 460 1024 codex_407 :=
  And.intro (okx_460 Hy) (okzx 1484)
theorem anx_408 (Hy : Hyx tys cA base adS Ex) : xall (fun b t => xOK l Dg clx tys cA flx ftx base adS GWx xyx xcx xnx xrx Ex codex bmx bpx b t) 1 972 1024 codex_408 :=
  And.intro (okx_972 Hy) (okzx 1996)
theorem anx_409 (Hy : Hyx tys cA base adS Ex) : xall (fun b t => xOK l Dg clx tys cA flx ftx base adS GWx xyx xcx xnx xrx Ex codex bmx bpx b t) 2 460 512 codex_409 :=
  And.intro (anx_407 Hy) (anx_408 Hy)
theorem anx_410 (Hy : Hyx tys cA base adS Ex) : xall (fun b t => xOK l Dg clx tys cA flx ftx base adS GWx xyx xcx xnx xrx Ex codex bmx bpx b t) 3 204 256 codex_410 :=
  And.intro (anx_406 Hy) (anx_409 Hy)
theorem anx_411 (Hy : Hyx tys cA base adS Ex) : xall (fun b t => xOK l Dg clx tys cA flx ftx base adS GWx xyx xcx xnx xrx Ex codex bmx bpx b t) 4 76 128 codex_411 :=
  And.intro (anx_403 Hy) (anx_410 Hy)
theorem anx_412 (Hy : Hyx tys cA base adS Ex) : xall (fun b t => xOK l Dg clx tys cA flx ftx base adS GWx xyx xcx xnx xrx Ex codex bmx bpx b t) 5 12 64 codex_412 :=
  And.intro (anx_396 Hy) (anx_411 Hy)
theorem anx_413 (Hy : Hyx tys cA base adS Ex) : xall (fun b t => xOK l Dg clx tys cA flx ftx base adS GWx xyx xcx xnx xrx Ex codex bmx bpx b t) 1 44 1024 codex_413 :=
  And.intro (okx_44 Hy) (okx_1068 Hy)
theorem anx_414 (Hy : Hyx tys cA base adS Ex) : xall (fun b t => xOK l Dg clx tys cA flx ftx base adS GWx xyx xcx xnx xrx Ex codex bmx bpx b t) 1 556 1024 codex_414 :=
  And.intro (okx_556 Hy) (okzx 1580)
theorem anx_415 (Hy : Hyx tys cA base adS Ex) : xall (fun b t => xOK l Dg clx tys cA flx ftx base adS GWx xyx xcx xnx xrx Ex codex bmx bpx b t) 2 44 512 codex_415 :=
  And.intro (anx_413 Hy) (anx_414 Hy)
theorem anx_416 (Hy : Hyx tys cA base adS Ex) : xall (fun b t => xOK l Dg clx tys cA flx ftx base adS GWx xyx xcx xnx xrx Ex codex bmx bpx b t) 1 300 1024 codex_416 :=
  And.intro (okx_300 Hy) (okzx 1324)
theorem anx_417 (Hy : Hyx tys cA base adS Ex) : xall (fun b t => xOK l Dg clx tys cA flx ftx base adS GWx xyx xcx xnx xrx Ex codex bmx bpx b t) 1 812 1024 codex_417 :=
  And.intro (okx_812 Hy) (okzx 1836)
theorem anx_418 (Hy : Hyx tys cA base adS Ex) : xall (fun b t => xOK l Dg clx tys cA flx ftx base adS GWx xyx xcx xnx xrx Ex codex bmx bpx b t) 2 300 512 codex_418 :=
  And.intro (anx_416 Hy) (anx_417 Hy)
theorem anx_419 (Hy : Hyx tys cA base adS Ex) : xall (fun b t => xOK l Dg clx tys cA flx ftx base adS GWx xyx xcx xnx xrx Ex codex bmx bpx b t) 3 44 256 codex_419 :=
  And.intro (anx_415 Hy) (anx_418 Hy)
theorem anx_420 (Hy : Hyx tys cA base adS Ex) : xall (fun b t => xOK l Dg clx tys cA flx ftx base adS GWx xyx xcx xnx xrx Ex codex bmx bpx b t) 1 172 1024 codex_420 :=
  And.intro (okx_172 Hy) (okzx 1196)
theorem anx_421 (Hy : Hyx tys cA base adS Ex) : xall (fun b t => xOK l Dg clx tys cA flx ftx base adS GWx xyx xcx xnx xrx Ex codex bmx bpx b t) 1 684 1024 codex_421 :=
  And.intro (okx_684 Hy) (okzx 1708)
theorem anx_422 (Hy : Hyx tys cA base adS Ex) : xall (fun b t => xOK l Dg clx tys cA flx ftx base adS GWx xyx xcx xnx xrx Ex codex bmx bpx b t) 2 172 512 codex_422 :=
  And.intro (anx_420 Hy) (anx_421 Hy)
theorem anx_423 (Hy : Hyx tys cA base adS Ex) : xall (fun b t => xOK l Dg clx tys cA flx ftx base adS GWx xyx xcx xnx xrx Ex codex bmx bpx b t) 1 428 1024 codex_423 :=
  And.intro (okx_428 Hy) (okzx 1452)
theorem anx_424 (Hy : Hyx tys cA base adS Ex) : xall (fun b t => xOK l Dg clx tys cA flx ftx base adS GWx xyx xcx xnx xrx Ex codex bmx bpx b t) 1 940 1024 codex_424 :=
  And.intro (okx_940 Hy) (okzx 1964)
theorem anx_425 (Hy : Hyx tys cA base adS Ex) : xall (fun b t => xOK l Dg clx tys cA flx ftx base adS GWx xyx xcx xnx xrx Ex codex bmx bpx b t) 2 428 512 codex_425 :=
  And.intro (anx_423 Hy) (anx_424 Hy)
theorem anx_426 (Hy : Hyx tys cA base adS Ex) : xall (fun b t => xOK l Dg clx tys cA flx ftx base adS GWx xyx xcx xnx xrx Ex codex bmx bpx b t) 3 172 256 codex_426 :=
  And.intro (anx_422 Hy) (anx_425 Hy)
theorem anx_427 (Hy : Hyx tys cA base adS Ex) : xall (fun b t => xOK l Dg clx tys cA flx ftx base adS GWx xyx xcx xnx xrx Ex codex bmx bpx b t) 4 44 128 codex_427 :=
  And.intro (anx_419 Hy) (anx_426 Hy)
theorem anx_428 (Hy : Hyx tys cA base adS Ex) : xall (fun b t => xOK l Dg clx tys cA flx ftx base adS GWx xyx xcx xnx xrx Ex codex bmx bpx b t) 1 108 1024 codex_428 :=
  And.intro (okx_108 Hy) (okx_1132 Hy)
theorem anx_429 (Hy : Hyx tys cA base adS Ex) : xall (fun b t => xOK l Dg clx tys cA flx ftx base adS GWx xyx xcx xnx xrx Ex codex bmx bpx b t) 1 620 1024 codex_429 :=
  And.intro (okx_620 Hy) (okzx 1644)
theorem anx_430 (Hy : Hyx tys cA base adS Ex) : xall (fun b t => xOK l Dg clx tys cA flx ftx base adS GWx xyx xcx xnx xrx Ex codex bmx bpx b t) 2 108 512 codex_430 :=
  And.intro (anx_428 Hy) (anx_429 Hy)
theorem anx_431 (Hy : Hyx tys cA base adS Ex) : xall (fun b t => xOK l Dg clx tys cA flx ftx base adS GWx xyx xcx xnx xrx Ex codex bmx bpx b t) 1 364 1024 codex_431 :=
  And.intro (okx_364 Hy) (okzx 1388)
theorem anx_432 (Hy : Hyx tys cA base adS Ex) : xall (fun b t => xOK l Dg clx tys cA flx ftx base adS GWx xyx xcx xnx xrx Ex codex bmx bpx b t) 1 876 1024 codex_432 :=
  And.intro (okx_876 Hy) (okzx 1900)
theorem anx_433 (Hy : Hyx tys cA base adS Ex) : xall (fun b t => xOK l Dg clx tys cA flx ftx base adS GWx xyx xcx xnx xrx Ex codex bmx bpx b t) 2 364 512 codex_433 :=
  And.intro (anx_431 Hy) (anx_432 Hy)
theorem anx_434 (Hy : Hyx tys cA base adS Ex) : xall (fun b t => xOK l Dg clx tys cA flx ftx base adS GWx xyx xcx xnx xrx Ex codex bmx bpx b t) 3 108 256 codex_434 :=
  And.intro (anx_430 Hy) (anx_433 Hy)
theorem anx_435 (Hy : Hyx tys cA base adS Ex) : xall (fun b t => xOK l Dg clx tys cA flx ftx base adS GWx xyx xcx xnx xrx Ex codex bmx bpx b t) 1 236 1024 codex_435 :=
  And.intro (okx_236 Hy) (okzx 1260)
theorem anx_436 (Hy : Hyx tys cA base adS Ex) : xall (fun b t => xOK l Dg clx tys cA flx ftx base adS GWx xyx xcx xnx xrx Ex codex bmx bpx b t) 1 748 1024 codex_436 :=
  And.intro (okx_748 Hy) (okzx 1772)
theorem anx_437 (Hy : Hyx tys cA base adS Ex) : xall (fun b t => xOK l Dg clx tys cA flx ftx base adS GWx xyx xcx xnx xrx Ex codex bmx bpx b t) 2 236 512 codex_437 :=
  And.intro (anx_435 Hy) (anx_436 Hy)
theorem anx_438 (Hy : Hyx tys cA base adS Ex) : xall (fun b t => xOK l Dg clx tys cA flx ftx base adS GWx xyx xcx xnx xrx Ex codex bmx bpx b t) 1 492 1024 codex_438 :=
  And.intro (okx_492 Hy) (okzx 1516)
theorem anx_439 (Hy : Hyx tys cA base adS Ex) : xall (fun b t => xOK l Dg clx tys cA flx ftx base adS GWx xyx xcx xnx xrx Ex codex bmx bpx b t) 1 1004 1024 codex_439 :=
  And.intro (okx_1004 Hy) (okzx 2028)
theorem anx_440 (Hy : Hyx tys cA base adS Ex) : xall (fun b t => xOK l Dg clx tys cA flx ftx base adS GWx xyx xcx xnx xrx Ex codex bmx bpx b t) 2 492 512 codex_440 :=
  And.intro (anx_438 Hy) (anx_439 Hy)
theorem anx_441 (Hy : Hyx tys cA base adS Ex) : xall (fun b t => xOK l Dg clx tys cA flx ftx base adS GWx xyx xcx xnx xrx Ex codex bmx bpx b t) 3 236 256 codex_441 :=
  And.intro (anx_437 Hy) (anx_440 Hy)
theorem anx_442 (Hy : Hyx tys cA base adS Ex) : xall (fun b t => xOK l Dg clx tys cA flx ftx base adS GWx xyx xcx xnx xrx Ex codex bmx bpx b t) 4 108 128 codex_442 :=
  And.intro (anx_434 Hy) (anx_441 Hy)
theorem anx_443 (Hy : Hyx tys cA base adS Ex) : xall (fun b t => xOK l Dg clx tys cA flx ftx base adS GWx xyx xcx xnx xrx Ex codex bmx bpx b t) 5 44 64 codex_443 :=
  And.intro (anx_427 Hy) (anx_442 Hy)
theorem anx_444 (Hy : Hyx tys cA base adS Ex) : xall (fun b t => xOK l Dg clx tys cA flx ftx base adS GWx xyx xcx xnx xrx Ex codex bmx bpx b t) 6 12 32 codex_444 :=
  And.intro (anx_412 Hy) (anx_443 Hy)
theorem anx_445 (Hy : Hyx tys cA base adS Ex) : xall (fun b t => xOK l Dg clx tys cA flx ftx base adS GWx xyx xcx xnx xrx Ex codex bmx bpx b t) 1 28 1024 codex_445 :=
  And.intro (okx_28 Hy) (okx_1052 Hy)
theorem anx_446 (Hy : Hyx tys cA base adS Ex) : xall (fun b t => xOK l Dg clx tys cA flx ftx base adS GWx xyx xcx xnx xrx Ex codex bmx bpx b t) 1 540 1024 codex_446 :=
  And.intro (okx_540 Hy) (okzx 1564)
theorem anx_447 (Hy : Hyx tys cA base adS Ex) : xall (fun b t => xOK l Dg clx tys cA flx ftx base adS GWx xyx xcx xnx xrx Ex codex bmx bpx b t) 2 28 512 codex_447 :=
  And.intro (anx_445 Hy) (anx_446 Hy)
theorem anx_448 (Hy : Hyx tys cA base adS Ex) : xall (fun b t => xOK l Dg clx tys cA flx ftx base adS GWx xyx xcx xnx xrx Ex codex bmx bpx b t) 1 284 1024 codex_448 :=
  And.intro (okx_284 Hy) (okzx 1308)
theorem anx_449 (Hy : Hyx tys cA base adS Ex) : xall (fun b t => xOK l Dg clx tys cA flx ftx base adS GWx xyx xcx xnx xrx Ex codex bmx bpx b t) 1 796 1024 codex_449 :=
  And.intro (okx_796 Hy) (okzx 1820)
theorem anx_450 (Hy : Hyx tys cA base adS Ex) : xall (fun b t => xOK l Dg clx tys cA flx ftx base adS GWx xyx xcx xnx xrx Ex codex bmx bpx b t) 2 284 512 codex_450 :=
  And.intro (anx_448 Hy) (anx_449 Hy)
theorem anx_451 (Hy : Hyx tys cA base adS Ex) : xall (fun b t => xOK l Dg clx tys cA flx ftx base adS GWx xyx xcx xnx xrx Ex codex bmx bpx b t) 3 28 256 codex_451 :=
  And.intro (anx_447 Hy) (anx_450 Hy)
theorem anx_452 (Hy : Hyx tys cA base adS Ex) : xall (fun b t => xOK l Dg clx tys cA flx ftx base adS GWx xyx xcx xnx xrx Ex codex bmx bpx b t) 1 156 1024 codex_452 :=
  And.intro (okx_156 Hy) (okx_1180 Hy)
theorem anx_453 (Hy : Hyx tys cA base adS Ex) : xall (fun b t => xOK l Dg clx tys cA flx ftx base adS GWx xyx xcx xnx xrx Ex codex bmx bpx b t) 1 668 1024 codex_453 :=
  And.intro (okx_668 Hy) (okzx 1692)
theorem anx_454 (Hy : Hyx tys cA base adS Ex) : xall (fun b t => xOK l Dg clx tys cA flx ftx base adS GWx xyx xcx xnx xrx Ex codex bmx bpx b t) 2 156 512 codex_454 :=
  And.intro (anx_452 Hy) (anx_453 Hy)
theorem anx_455 (Hy : Hyx tys cA base adS Ex) : xall (fun b t => xOK l Dg clx tys cA flx ftx base adS GWx xyx xcx xnx xrx Ex codex bmx bpx b t) 1 412 1024 codex_455 :=
  And.intro (okx_412 Hy) (okzx 1436)
theorem anx_456 (Hy : Hyx tys cA base adS Ex) : xall (fun b t => xOK l Dg clx tys cA flx ftx base adS GWx xyx xcx xnx xrx Ex codex bmx bpx b t) 1 924 1024 codex_456 :=
  And.intro (okx_924 Hy) (okzx 1948)
theorem anx_457 (Hy : Hyx tys cA base adS Ex) : xall (fun b t => xOK l Dg clx tys cA flx ftx base adS GWx xyx xcx xnx xrx Ex codex bmx bpx b t) 2 412 512 codex_457 :=
  And.intro (anx_455 Hy) (anx_456 Hy)
theorem anx_458 (Hy : Hyx tys cA base adS Ex) : xall (fun b t => xOK l Dg clx tys cA flx ftx base adS GWx xyx xcx xnx xrx Ex codex bmx bpx b t) 3 156 256 codex_458 :=
  And.intro (anx_454 Hy) (anx_457 Hy)
theorem anx_459 (Hy : Hyx tys cA base adS Ex) : xall (fun b t => xOK l Dg clx tys cA flx ftx base adS GWx xyx xcx xnx xrx Ex codex bmx bpx b t) 4 28 128 codex_459 :=
  And.intro (anx_451 Hy) (anx_458 Hy)
theorem anx_460 (Hy : Hyx tys cA base adS Ex) : xall (fun b t => xOK l Dg clx tys cA flx ftx base adS GWx xyx xcx xnx xrx Ex codex bmx bpx b t) 1 92 1024 codex_460 :=
  And.intro (okx_92 Hy) (okx_1116 Hy)
theorem anx_461 (Hy : Hyx tys cA base adS Ex) : xall (fun b t => xOK l Dg clx tys cA flx ftx base adS GWx xyx xcx xnx xrx Ex codex bmx bpx b t) 1 604 1024 codex_461 :=
  And.intro (okx_604 Hy) (okzx 1628)
theorem anx_462 (Hy : Hyx tys cA base adS Ex) : xall (fun b t => xOK l Dg clx tys cA flx ftx base adS GWx xyx xcx xnx xrx Ex codex bmx bpx b t) 2 92 512 codex_462 :=
  And.intro (anx_460 Hy) (anx_461 Hy)
theorem anx_463 (Hy : Hyx tys cA base adS Ex) : xall (fun b t => xOK l Dg clx tys cA flx ftx base adS GWx xyx xcx xnx xrx Ex codex bmx bpx b t) 1 348 1024 codex_463 :=
  And.intro (okx_348 Hy) (okzx 1372)
theorem anx_464 (Hy : Hyx tys cA base adS Ex) : xall (fun b t => xOK l Dg clx tys cA flx ftx base adS GWx xyx xcx xnx xrx Ex codex bmx bpx b t) 1 860 1024 codex_464 :=
  And.intro (okx_860 Hy) (okzx 1884)
theorem anx_465 (Hy : Hyx tys cA base adS Ex) : xall (fun b t => xOK l Dg clx tys cA flx ftx base adS GWx xyx xcx xnx xrx Ex codex bmx bpx b t) 2 348 512 codex_465 :=
  And.intro (anx_463 Hy) (anx_464 Hy)
theorem anx_466 (Hy : Hyx tys cA base adS Ex) : xall (fun b t => xOK l Dg clx tys cA flx ftx base adS GWx xyx xcx xnx xrx Ex codex bmx bpx b t) 3 92 256 codex_466 :=
  And.intro (anx_462 Hy) (anx_465 Hy)
theorem anx_467 (Hy : Hyx tys cA base adS Ex) : xall (fun b t => xOK l Dg clx tys cA flx ftx base adS GWx xyx xcx xnx xrx Ex codex bmx bpx b t) 1 220 1024 codex_467 :=
  And.intro (okx_220 Hy) (okzx 1244)
theorem anx_468 (Hy : Hyx tys cA base adS Ex) : xall (fun b t => xOK l Dg clx tys cA flx ftx base adS GWx xyx xcx xnx xrx Ex codex bmx bpx b t) 1 732 1024 codex_468 :=
  And.intro (okx_732 Hy) (okzx 1756)
theorem anx_469 (Hy : Hyx tys cA base adS Ex) : xall (fun b t => xOK l Dg clx tys cA flx ftx base adS GWx xyx xcx xnx xrx Ex codex bmx bpx b t) 2 220 512 codex_469 :=
  And.intro (anx_467 Hy) (anx_468 Hy)
theorem anx_470 (Hy : Hyx tys cA base adS Ex) : xall (fun b t => xOK l Dg clx tys cA flx ftx base adS GWx xyx xcx xnx xrx Ex codex bmx bpx b t) 1 476 1024 codex_470 :=
  And.intro (okx_476 Hy) (okzx 1500)
theorem anx_471 (Hy : Hyx tys cA base adS Ex) : xall (fun b t => xOK l Dg clx tys cA flx ftx base adS GWx xyx xcx xnx xrx Ex codex bmx bpx b t) 1 988 1024 codex_471 :=
  And.intro (okx_988 Hy) (okzx 2012)
theorem anx_472 (Hy : Hyx tys cA base adS Ex) : xall (fun b t => xOK l Dg clx tys cA flx ftx base adS GWx xyx xcx xnx xrx Ex codex bmx bpx b t) 2 476 512 codex_472 :=
  And.intro (anx_470 Hy) (anx_471 Hy)
theorem anx_473 (Hy : Hyx tys cA base adS Ex) : xall (fun b t => xOK l Dg clx tys cA flx ftx base adS GWx xyx xcx xnx xrx Ex codex bmx bpx b t) 3 220 256 codex_473 :=
  And.intro (anx_469 Hy) (anx_472 Hy)
theorem anx_474 (Hy : Hyx tys cA base adS Ex) : xall (fun b t => xOK l Dg clx tys cA flx ftx base adS GWx xyx xcx xnx xrx Ex codex bmx bpx b t) 4 92 128 codex_474 :=
  And.intro (anx_466 Hy) (anx_473 Hy)
theorem anx_475 (Hy : Hyx tys cA base adS Ex) : xall (fun b t => xOK l Dg clx tys cA flx ftx base adS GWx xyx xcx xnx xrx Ex codex bmx bpx b t) 5 28 64 codex_475 :=
  And.intro (anx_459 Hy) (anx_474 Hy)
theorem anx_476 (Hy : Hyx tys cA base adS Ex) : xall (fun b t => xOK l Dg clx tys cA flx ftx base adS GWx xyx xcx xnx xrx Ex codex bmx bpx b t) 1 60 1024 codex_476 :=
  And.intro (okx_60 Hy) (okx_1084 Hy)
theorem anx_477 (Hy : Hyx tys cA base adS Ex) : xall (fun b t => xOK l Dg clx tys cA flx ftx base adS GWx xyx xcx xnx xrx Ex codex bmx bpx b t) 1 572 1024 codex_477 :=
  And.intro (okx_572 Hy) (okzx 1596)
theorem anx_478 (Hy : Hyx tys cA base adS Ex) : xall (fun b t => xOK l Dg clx tys cA flx ftx base adS GWx xyx xcx xnx xrx Ex codex bmx bpx b t) 2 60 512 codex_478 :=
  And.intro (anx_476 Hy) (anx_477 Hy)
theorem anx_479 (Hy : Hyx tys cA base adS Ex) : xall (fun b t => xOK l Dg clx tys cA flx ftx base adS GWx xyx xcx xnx xrx Ex codex bmx bpx b t) 1 316 1024 codex_479 :=
  And.intro (okx_316 Hy) (okzx 1340)
theorem anx_480 (Hy : Hyx tys cA base adS Ex) : xall (fun b t => xOK l Dg clx tys cA flx ftx base adS GWx xyx xcx xnx xrx Ex codex bmx bpx b t) 1 828 1024 codex_480 :=
  And.intro (okx_828 Hy) (okzx 1852)
theorem anx_481 (Hy : Hyx tys cA base adS Ex) : xall (fun b t => xOK l Dg clx tys cA flx ftx base adS GWx xyx xcx xnx xrx Ex codex bmx bpx b t) 2 316 512 codex_481 :=
  And.intro (anx_479 Hy) (anx_480 Hy)
theorem anx_482 (Hy : Hyx tys cA base adS Ex) : xall (fun b t => xOK l Dg clx tys cA flx ftx base adS GWx xyx xcx xnx xrx Ex codex bmx bpx b t) 3 60 256 codex_482 :=
  And.intro (anx_478 Hy) (anx_481 Hy)
theorem anx_483 (Hy : Hyx tys cA base adS Ex) : xall (fun b t => xOK l Dg clx tys cA flx ftx base adS GWx xyx xcx xnx xrx Ex codex bmx bpx b t) 1 188 1024 codex_483 :=
  And.intro (okx_188 Hy) (okzx 1212)
theorem anx_484 (Hy : Hyx tys cA base adS Ex) : xall (fun b t => xOK l Dg clx tys cA flx ftx base adS GWx xyx xcx xnx xrx Ex codex bmx bpx b t) 1 700 1024 codex_484 :=
  And.intro (okx_700 Hy) (okzx 1724)
theorem anx_485 (Hy : Hyx tys cA base adS Ex) : xall (fun b t => xOK l Dg clx tys cA flx ftx base adS GWx xyx xcx xnx xrx Ex codex bmx bpx b t) 2 188 512 codex_485 :=
  And.intro (anx_483 Hy) (anx_484 Hy)
theorem anx_486 (Hy : Hyx tys cA base adS Ex) : xall (fun b t => xOK l Dg clx tys cA flx ftx base adS GWx xyx xcx xnx xrx Ex codex bmx bpx b t) 1 444 1024 codex_486 :=
  And.intro (okx_444 Hy) (okzx 1468)
theorem anx_487 (Hy : Hyx tys cA base adS Ex) : xall (fun b t => xOK l Dg clx tys cA flx ftx base adS GWx xyx xcx xnx xrx Ex codex bmx bpx b t) 1 956 1024 codex_487 :=
  And.intro (okx_956 Hy) (okzx 1980)
theorem anx_488 (Hy : Hyx tys cA base adS Ex) : xall (fun b t => xOK l Dg clx tys cA flx ftx base adS GWx xyx xcx xnx xrx Ex codex bmx bpx b t) 2 444 512 codex_488 :=
  And.intro (anx_486 Hy) (anx_487 Hy)
theorem anx_489 (Hy : Hyx tys cA base adS Ex) : xall (fun b t => xOK l Dg clx tys cA flx ftx base adS GWx xyx xcx xnx xrx Ex codex bmx bpx b t) 3 188 256 codex_489 :=
  And.intro (anx_485 Hy) (anx_488 Hy)
theorem anx_490 (Hy : Hyx tys cA base adS Ex) : xall (fun b t => xOK l Dg clx tys cA flx ftx base adS GWx xyx xcx xnx xrx Ex codex bmx bpx b t) 4 60 128 codex_490 :=
  And.intro (anx_482 Hy) (anx_489 Hy)
theorem anx_491 (Hy : Hyx tys cA base adS Ex) : xall (fun b t => xOK l Dg clx tys cA flx ftx base adS GWx xyx xcx xnx xrx Ex codex bmx bpx b t) 1 124 1024 codex_491 :=
  And.intro (okx_124 Hy) (okx_1148 Hy)
theorem anx_492 (Hy : Hyx tys cA base adS Ex) : xall (fun b t => xOK l Dg clx tys cA flx ftx base adS GWx xyx xcx xnx xrx Ex codex bmx bpx b t) 1 636 1024 codex_492 :=
  And.intro (okx_636 Hy) (okzx 1660)
theorem anx_493 (Hy : Hyx tys cA base adS Ex) : xall (fun b t => xOK l Dg clx tys cA flx ftx base adS GWx xyx xcx xnx xrx Ex codex bmx bpx b t) 2 124 512 codex_493 :=
  And.intro (anx_491 Hy) (anx_492 Hy)
theorem anx_494 (Hy : Hyx tys cA base adS Ex) : xall (fun b t => xOK l Dg clx tys cA flx ftx base adS GWx xyx xcx xnx xrx Ex codex bmx bpx b t) 1 380 1024 codex_494 :=
  And.intro (okx_380 Hy) (okzx 1404)
theorem anx_495 (Hy : Hyx tys cA base adS Ex) : xall (fun b t => xOK l Dg clx tys cA flx ftx base adS GWx xyx xcx xnx xrx Ex codex bmx bpx b t) 1 892 1024 codex_495 :=
  And.intro (okx_892 Hy) (okzx 1916)
theorem anx_496 (Hy : Hyx tys cA base adS Ex) : xall (fun b t => xOK l Dg clx tys cA flx ftx base adS GWx xyx xcx xnx xrx Ex codex bmx bpx b t) 2 380 512 codex_496 :=
  And.intro (anx_494 Hy) (anx_495 Hy)
theorem anx_497 (Hy : Hyx tys cA base adS Ex) : xall (fun b t => xOK l Dg clx tys cA flx ftx base adS GWx xyx xcx xnx xrx Ex codex bmx bpx b t) 3 124 256 codex_497 :=
  And.intro (anx_493 Hy) (anx_496 Hy)
theorem anx_498 (Hy : Hyx tys cA base adS Ex) : xall (fun b t => xOK l Dg clx tys cA flx ftx base adS GWx xyx xcx xnx xrx Ex codex bmx bpx b t) 1 252 1024 codex_498 :=
  And.intro (okx_252 Hy) (okzx 1276)
theorem anx_499 (Hy : Hyx tys cA base adS Ex) : xall (fun b t => xOK l Dg clx tys cA flx ftx base adS GWx xyx xcx xnx xrx Ex codex bmx bpx b t) 1 764 1024 codex_499 :=
  And.intro (okx_764 Hy) (okzx 1788)
theorem anx_500 (Hy : Hyx tys cA base adS Ex) : xall (fun b t => xOK l Dg clx tys cA flx ftx base adS GWx xyx xcx xnx xrx Ex codex bmx bpx b t) 2 252 512 codex_500 :=
  And.intro (anx_498 Hy) (anx_499 Hy)
theorem anx_501 (Hy : Hyx tys cA base adS Ex) : xall (fun b t => xOK l Dg clx tys cA flx ftx base adS GWx xyx xcx xnx xrx Ex codex bmx bpx b t) 1 508 1024 codex_501 :=
  And.intro (okx_508 Hy) (okzx 1532)
theorem anx_502 (Hy : Hyx tys cA base adS Ex) : xall (fun b t => xOK l Dg clx tys cA flx ftx base adS GWx xyx xcx xnx xrx Ex codex bmx bpx b t) 1 1020 1024 codex_502 :=
  And.intro (okx_1020 Hy) (okzx 2044)
theorem anx_503 (Hy : Hyx tys cA base adS Ex) : xall (fun b t => xOK l Dg clx tys cA flx ftx base adS GWx xyx xcx xnx xrx Ex codex bmx bpx b t) 2 508 512 codex_503 :=
  And.intro (anx_501 Hy) (anx_502 Hy)
theorem anx_504 (Hy : Hyx tys cA base adS Ex) : xall (fun b t => xOK l Dg clx tys cA flx ftx base adS GWx xyx xcx xnx xrx Ex codex bmx bpx b t) 3 252 256 codex_504 :=
  And.intro (anx_500 Hy) (anx_503 Hy)
theorem anx_505 (Hy : Hyx tys cA base adS Ex) : xall (fun b t => xOK l Dg clx tys cA flx ftx base adS GWx xyx xcx xnx xrx Ex codex bmx bpx b t) 4 124 128 codex_505 :=
  And.intro (anx_497 Hy) (anx_504 Hy)
theorem anx_506 (Hy : Hyx tys cA base adS Ex) : xall (fun b t => xOK l Dg clx tys cA flx ftx base adS GWx xyx xcx xnx xrx Ex codex bmx bpx b t) 5 60 64 codex_506 :=
  And.intro (anx_490 Hy) (anx_505 Hy)
theorem anx_507 (Hy : Hyx tys cA base adS Ex) : xall (fun b t => xOK l Dg clx tys cA flx ftx base adS GWx xyx xcx xnx xrx Ex codex bmx bpx b t) 6 28 32 codex_507 :=
  And.intro (anx_475 Hy) (anx_506 Hy)
theorem anx_508 (Hy : Hyx tys cA base adS Ex) : xall (fun b t => xOK l Dg clx tys cA flx ftx base adS GWx xyx xcx xnx xrx Ex codex bmx bpx b t) 7 12 16 codex_508 :=
  And.intro (anx_444 Hy) (anx_507 Hy)
theorem anx_509 (Hy : Hyx tys cA base adS Ex) : xall (fun b t => xOK l Dg clx tys cA flx ftx base adS GWx xyx xcx xnx xrx Ex codex bmx bpx b t) 8 4 8 codex_509 :=
  And.intro (anx_381 Hy) (anx_508 Hy)
theorem anx_510 (Hy : Hyx tys cA base adS Ex) : xall (fun b t => xOK l Dg clx tys cA flx ftx base adS GWx xyx xcx xnx xrx Ex codex bmx bpx b t) 9 0 4 codex_510 :=
  And.intro (anx_254 Hy) (anx_509 Hy)
theorem anx_511 (Hy : Hyx tys cA base adS Ex) : xall (fun b t => xOK l Dg clx tys cA flx ftx base adS GWx xyx xcx xnx xrx Ex codex bmx bpx b t) 1 2 1024 codex_511 :=
  And.intro (okx_2 Hy) (okx_1026 Hy)
theorem anx_512 (Hy : Hyx tys cA base adS Ex) : xall (fun b t => xOK l Dg clx tys cA flx ftx base adS GWx xyx xcx xnx xrx Ex codex bmx bpx b t) 1 514 1024 codex_512 :=
  And.intro (okx_514 Hy) (okzx 1538)
theorem anx_513 (Hy : Hyx tys cA base adS Ex) : xall (fun b t => xOK l Dg clx tys cA flx ftx base adS GWx xyx xcx xnx xrx Ex codex bmx bpx b t) 2 2 512 codex_513 :=
  And.intro (anx_511 Hy) (anx_512 Hy)
theorem anx_514 (Hy : Hyx tys cA base adS Ex) : xall (fun b t => xOK l Dg clx tys cA flx ftx base adS GWx xyx xcx xnx xrx Ex codex bmx bpx b t) 1 258 1024 codex_514 :=
  And.intro (okx_258 Hy) (okzx 1282)
theorem anx_515 (Hy : Hyx tys cA base adS Ex) : xall (fun b t => xOK l Dg clx tys cA flx ftx base adS GWx xyx xcx xnx xrx Ex codex bmx bpx b t) 1 770 1024 codex_515 :=
  And.intro (okx_770 Hy) (okzx 1794)
theorem anx_516 (Hy : Hyx tys cA base adS Ex) : xall (fun b t => xOK l Dg clx tys cA flx ftx base adS GWx xyx xcx xnx xrx Ex codex bmx bpx b t) 2 258 512 codex_516 :=
  And.intro (anx_514 Hy) (anx_515 Hy)
theorem anx_517 (Hy : Hyx tys cA base adS Ex) : xall (fun b t => xOK l Dg clx tys cA flx ftx base adS GWx xyx xcx xnx xrx Ex codex bmx bpx b t) 3 2 256 codex_517 :=
  And.intro (anx_513 Hy) (anx_516 Hy)
theorem anx_518 (Hy : Hyx tys cA base adS Ex) : xall (fun b t => xOK l Dg clx tys cA flx ftx base adS GWx xyx xcx xnx xrx Ex codex bmx bpx b t) 1 130 1024 codex_518 :=
  And.intro (okx_130 Hy) (okx_1154 Hy)
theorem anx_519 (Hy : Hyx tys cA base adS Ex) : xall (fun b t => xOK l Dg clx tys cA flx ftx base adS GWx xyx xcx xnx xrx Ex codex bmx bpx b t) 1 642 1024 codex_519 :=
  And.intro (okx_642 Hy) (okzx 1666)
theorem anx_520 (Hy : Hyx tys cA base adS Ex) : xall (fun b t => xOK l Dg clx tys cA flx ftx base adS GWx xyx xcx xnx xrx Ex codex bmx bpx b t) 2 130 512 codex_520 :=
  And.intro (anx_518 Hy) (anx_519 Hy)
theorem anx_521 (Hy : Hyx tys cA base adS Ex) : xall (fun b t => xOK l Dg clx tys cA flx ftx base adS GWx xyx xcx xnx xrx Ex codex bmx bpx b t) 1 386 1024 codex_521 :=
  And.intro (okx_386 Hy) (okzx 1410)
theorem anx_522 (Hy : Hyx tys cA base adS Ex) : xall (fun b t => xOK l Dg clx tys cA flx ftx base adS GWx xyx xcx xnx xrx Ex codex bmx bpx b t) 1 898 1024 codex_522 :=
  And.intro (okx_898 Hy) (okzx 1922)
theorem anx_523 (Hy : Hyx tys cA base adS Ex) : xall (fun b t => xOK l Dg clx tys cA flx ftx base adS GWx xyx xcx xnx xrx Ex codex bmx bpx b t) 2 386 512 codex_523 :=
  And.intro (anx_521 Hy) (anx_522 Hy)
theorem anx_524 (Hy : Hyx tys cA base adS Ex) : xall (fun b t => xOK l Dg clx tys cA flx ftx base adS GWx xyx xcx xnx xrx Ex codex bmx bpx b t) 3 130 256 codex_524 :=
  And.intro (anx_520 Hy) (anx_523 Hy)
theorem anx_525 (Hy : Hyx tys cA base adS Ex) : xall (fun b t => xOK l Dg clx tys cA flx ftx base adS GWx xyx xcx xnx xrx Ex codex bmx bpx b t) 4 2 128 codex_525 :=
  And.intro (anx_517 Hy) (anx_524 Hy)
theorem anx_526 (Hy : Hyx tys cA base adS Ex) : xall (fun b t => xOK l Dg clx tys cA flx ftx base adS GWx xyx xcx xnx xrx Ex codex bmx bpx b t) 1 66 1024 codex_526 :=
  And.intro (okx_66 Hy) (okx_1090 Hy)
theorem anx_527 (Hy : Hyx tys cA base adS Ex) : xall (fun b t => xOK l Dg clx tys cA flx ftx base adS GWx xyx xcx xnx xrx Ex codex bmx bpx b t) 1 578 1024 codex_527 :=
  And.intro (okx_578 Hy) (okzx 1602)
theorem anx_528 (Hy : Hyx tys cA base adS Ex) : xall (fun b t => xOK l Dg clx tys cA flx ftx base adS GWx xyx xcx xnx xrx Ex codex bmx bpx b t) 2 66 512 codex_528 :=
  And.intro (anx_526 Hy) (anx_527 Hy)
theorem anx_529 (Hy : Hyx tys cA base adS Ex) : xall (fun b t => xOK l Dg clx tys cA flx ftx base adS GWx xyx xcx xnx xrx Ex codex bmx bpx b t) 1 322 1024 codex_529 :=
  And.intro (okx_322 Hy) (okzx 1346)
theorem anx_530 (Hy : Hyx tys cA base adS Ex) : xall (fun b t => xOK l Dg clx tys cA flx ftx base adS GWx xyx xcx xnx xrx Ex codex bmx bpx b t) 1 834 1024 codex_530 :=
  And.intro (okx_834 Hy) (okzx 1858)
theorem anx_531 (Hy : Hyx tys cA base adS Ex) : xall (fun b t => xOK l Dg clx tys cA flx ftx base adS GWx xyx xcx xnx xrx Ex codex bmx bpx b t) 2 322 512 codex_531 :=
  And.intro (anx_529 Hy) (anx_530 Hy)
theorem anx_532 (Hy : Hyx tys cA base adS Ex) : xall (fun b t => xOK l Dg clx tys cA flx ftx base adS GWx xyx xcx xnx xrx Ex codex bmx bpx b t) 3 66 256 codex_532 :=
  And.intro (anx_528 Hy) (anx_531 Hy)
theorem anx_533 (Hy : Hyx tys cA base adS Ex) : xall (fun b t => xOK l Dg clx tys cA flx ftx base adS GWx xyx xcx xnx xrx Ex codex bmx bpx b t) 1 194 1024 codex_533 :=
  And.intro (okx_194 Hy) (okzx 1218)
theorem anx_534 (Hy : Hyx tys cA base adS Ex) : xall (fun b t => xOK l Dg clx tys cA flx ftx base adS GWx xyx xcx xnx xrx Ex codex bmx bpx b t) 1 706 1024 codex_534 :=
  And.intro (okx_706 Hy) (okzx 1730)
theorem anx_535 (Hy : Hyx tys cA base adS Ex) : xall (fun b t => xOK l Dg clx tys cA flx ftx base adS GWx xyx xcx xnx xrx Ex codex bmx bpx b t) 2 194 512 codex_535 :=
  And.intro (anx_533 Hy) (anx_534 Hy)
theorem anx_536 (Hy : Hyx tys cA base adS Ex) : xall (fun b t => xOK l Dg clx tys cA flx ftx base adS GWx xyx xcx xnx xrx Ex codex bmx bpx b t) 1 450 1024 codex_536 :=
  And.intro (okx_450 Hy) (okzx 1474)
theorem anx_537 (Hy : Hyx tys cA base adS Ex) : xall (fun b t => xOK l Dg clx tys cA flx ftx base adS GWx xyx xcx xnx xrx Ex codex bmx bpx b t) 1 962 1024 codex_537 :=
  And.intro (okx_962 Hy) (okzx 1986)
theorem anx_538 (Hy : Hyx tys cA base adS Ex) : xall (fun b t => xOK l Dg clx tys cA flx ftx base adS GWx xyx xcx xnx xrx Ex codex bmx bpx b t) 2 450 512 codex_538 :=
  And.intro (anx_536 Hy) (anx_537 Hy)
theorem anx_539 (Hy : Hyx tys cA base adS Ex) : xall (fun b t => xOK l Dg clx tys cA flx ftx base adS GWx xyx xcx xnx xrx Ex codex bmx bpx b t) 3 194 256 codex_539 :=
  And.intro (anx_535 Hy) (anx_538 Hy)
theorem anx_540 (Hy : Hyx tys cA base adS Ex) : xall (fun b t => xOK l Dg clx tys cA flx ftx base adS GWx xyx xcx xnx xrx Ex codex bmx bpx b t) 4 66 128 codex_540 :=
  And.intro (anx_532 Hy) (anx_539 Hy)
theorem anx_541 (Hy : Hyx tys cA base adS Ex) : xall (fun b t => xOK l Dg clx tys cA flx ftx base adS GWx xyx xcx xnx xrx Ex codex bmx bpx b t) 5 2 64 codex_541 :=
  And.intro (anx_525 Hy) (anx_540 Hy)
theorem anx_542 (Hy : Hyx tys cA base adS Ex) : xall (fun b t => xOK l Dg clx tys cA flx ftx base adS GWx xyx xcx xnx xrx Ex codex bmx bpx b t) 1 34 1024 codex_542 :=
  And.intro (okx_34 Hy) (okx_1058 Hy)
theorem anx_543 (Hy : Hyx tys cA base adS Ex) : xall (fun b t => xOK l Dg clx tys cA flx ftx base adS GWx xyx xcx xnx xrx Ex codex bmx bpx b t) 1 546 1024 codex_543 :=
  And.intro (okx_546 Hy) (okzx 1570)
theorem anx_544 (Hy : Hyx tys cA base adS Ex) : xall (fun b t => xOK l Dg clx tys cA flx ftx base adS GWx xyx xcx xnx xrx Ex codex bmx bpx b t) 2 34 512 codex_544 :=
  And.intro (anx_542 Hy) (anx_543 Hy)
theorem anx_545 (Hy : Hyx tys cA base adS Ex) : xall (fun b t => xOK l Dg clx tys cA flx ftx base adS GWx xyx xcx xnx xrx Ex codex bmx bpx b t) 1 290 1024 codex_545 :=
  And.intro (okx_290 Hy) (okzx 1314)
theorem anx_546 (Hy : Hyx tys cA base adS Ex) : xall (fun b t => xOK l Dg clx tys cA flx ftx base adS GWx xyx xcx xnx xrx Ex codex bmx bpx b t) 1 802 1024 codex_546 :=
  And.intro (okx_802 Hy) (okzx 1826)
theorem anx_547 (Hy : Hyx tys cA base adS Ex) : xall (fun b t => xOK l Dg clx tys cA flx ftx base adS GWx xyx xcx xnx xrx Ex codex bmx bpx b t) 2 290 512 codex_547 :=
  And.intro (anx_545 Hy) (anx_546 Hy)
theorem anx_548 (Hy : Hyx tys cA base adS Ex) : xall (fun b t => xOK l Dg clx tys cA flx ftx base adS GWx xyx xcx xnx xrx Ex codex bmx bpx b t) 3 34 256 codex_548 :=
  And.intro (anx_544 Hy) (anx_547 Hy)
theorem anx_549 (Hy : Hyx tys cA base adS Ex) : xall (fun b t => xOK l Dg clx tys cA flx ftx base adS GWx xyx xcx xnx xrx Ex codex bmx bpx b t) 1 162 1024 codex_549 :=
  And.intro (okx_162 Hy) (okx_1186 Hy)
theorem anx_550 (Hy : Hyx tys cA base adS Ex) : xall (fun b t => xOK l Dg clx tys cA flx ftx base adS GWx xyx xcx xnx xrx Ex codex bmx bpx b t) 1 674 1024 codex_550 :=
  And.intro (okx_674 Hy) (okzx 1698)
theorem anx_551 (Hy : Hyx tys cA base adS Ex) : xall (fun b t => xOK l Dg clx tys cA flx ftx base adS GWx xyx xcx xnx xrx Ex codex bmx bpx b t) 2 162 512 codex_551 :=
  And.intro (anx_549 Hy) (anx_550 Hy)
theorem anx_552 (Hy : Hyx tys cA base adS Ex) : xall (fun b t => xOK l Dg clx tys cA flx ftx base adS GWx xyx xcx xnx xrx Ex codex bmx bpx b t) 1 418 1024 codex_552 :=
  And.intro (okx_418 Hy) (okzx 1442)
theorem anx_553 (Hy : Hyx tys cA base adS Ex) : xall (fun b t => xOK l Dg clx tys cA flx ftx base adS GWx xyx xcx xnx xrx Ex codex bmx bpx b t) 1 930 1024 codex_553 :=
  And.intro (okx_930 Hy) (okzx 1954)
theorem anx_554 (Hy : Hyx tys cA base adS Ex) : xall (fun b t => xOK l Dg clx tys cA flx ftx base adS GWx xyx xcx xnx xrx Ex codex bmx bpx b t) 2 418 512 codex_554 :=
  And.intro (anx_552 Hy) (anx_553 Hy)
theorem anx_555 (Hy : Hyx tys cA base adS Ex) : xall (fun b t => xOK l Dg clx tys cA flx ftx base adS GWx xyx xcx xnx xrx Ex codex bmx bpx b t) 3 162 256 codex_555 :=
  And.intro (anx_551 Hy) (anx_554 Hy)
theorem anx_556 (Hy : Hyx tys cA base adS Ex) : xall (fun b t => xOK l Dg clx tys cA flx ftx base adS GWx xyx xcx xnx xrx Ex codex bmx bpx b t) 4 34 128 codex_556 :=
  And.intro (anx_548 Hy) (anx_555 Hy)
theorem anx_557 (Hy : Hyx tys cA base adS Ex) : xall (fun b t => xOK l Dg clx tys cA flx ftx base adS GWx xyx xcx xnx xrx Ex codex bmx bpx b t) 1 98 1024 codex_557 :=
  And.intro (okx_98 Hy) (okx_1122 Hy)
theorem anx_558 (Hy : Hyx tys cA base adS Ex) : xall (fun b t => xOK l Dg clx tys cA flx ftx base adS GWx xyx xcx xnx xrx Ex codex bmx bpx b t) 1 610 1024 codex_558 :=
  And.intro (okx_610 Hy) (okzx 1634)
theorem anx_559 (Hy : Hyx tys cA base adS Ex) : xall (fun b t => xOK l Dg clx tys cA flx ftx base adS GWx xyx xcx xnx xrx Ex codex bmx bpx b t) 2 98 512 codex_559 :=
  And.intro (anx_557 Hy) (anx_558 Hy)
theorem anx_560 (Hy : Hyx tys cA base adS Ex) : xall (fun b t => xOK l Dg clx tys cA flx ftx base adS GWx xyx xcx xnx xrx Ex codex bmx bpx b t) 1 354 1024 codex_560 :=
  And.intro (okx_354 Hy) (okzx 1378)
theorem anx_561 (Hy : Hyx tys cA base adS Ex) : xall (fun b t => xOK l Dg clx tys cA flx ftx base adS GWx xyx xcx xnx xrx Ex codex bmx bpx b t) 1 866 1024 codex_561 :=
  And.intro (okx_866 Hy) (okzx 1890)
theorem anx_562 (Hy : Hyx tys cA base adS Ex) : xall (fun b t => xOK l Dg clx tys cA flx ftx base adS GWx xyx xcx xnx xrx Ex codex bmx bpx b t) 2 354 512 codex_562 :=
  And.intro (anx_560 Hy) (anx_561 Hy)
theorem anx_563 (Hy : Hyx tys cA base adS Ex) : xall (fun b t => xOK l Dg clx tys cA flx ftx base adS GWx xyx xcx xnx xrx Ex codex bmx bpx b t) 3 98 256 codex_563 :=
  And.intro (anx_559 Hy) (anx_562 Hy)
theorem anx_564 (Hy : Hyx tys cA base adS Ex) : xall (fun b t => xOK l Dg clx tys cA flx ftx base adS GWx xyx xcx xnx xrx Ex codex bmx bpx b t) 1 226 1024 codex_564 :=
  And.intro (okx_226 Hy) (okzx 1250)
theorem anx_565 (Hy : Hyx tys cA base adS Ex) : xall (fun b t => xOK l Dg clx tys cA flx ftx base adS GWx xyx xcx xnx xrx Ex codex bmx bpx b t) 1 738 1024 codex_565 :=
  And.intro (okx_738 Hy) (okzx 1762)
theorem anx_566 (Hy : Hyx tys cA base adS Ex) : xall (fun b t => xOK l Dg clx tys cA flx ftx base adS GWx xyx xcx xnx xrx Ex codex bmx bpx b t) 2 226 512 codex_566 :=
  And.intro (anx_564 Hy) (anx_565 Hy)
theorem anx_567 (Hy : Hyx tys cA base adS Ex) : xall (fun b t => xOK l Dg clx tys cA flx ftx base adS GWx xyx xcx xnx xrx Ex codex bmx bpx b t) 1 482 1024 codex_567 :=
  And.intro (okx_482 Hy) (okzx 1506)
theorem anx_568 (Hy : Hyx tys cA base adS Ex) : xall (fun b t => xOK l Dg clx tys cA flx ftx base adS GWx xyx xcx xnx xrx Ex codex bmx bpx b t) 1 994 1024 codex_568 :=
  And.intro (okx_994 Hy) (okzx 2018)
theorem anx_569 (Hy : Hyx tys cA base adS Ex) : xall (fun b t => xOK l Dg clx tys cA flx ftx base adS GWx xyx xcx xnx xrx Ex codex bmx bpx b t) 2 482 512 codex_569 :=
  And.intro (anx_567 Hy) (anx_568 Hy)
theorem anx_570 (Hy : Hyx tys cA base adS Ex) : xall (fun b t => xOK l Dg clx tys cA flx ftx base adS GWx xyx xcx xnx xrx Ex codex bmx bpx b t) 3 226 256 codex_570 :=
  And.intro (anx_566 Hy) (anx_569 Hy)
theorem anx_571 (Hy : Hyx tys cA base adS Ex) : xall (fun b t => xOK l Dg clx tys cA flx ftx base adS GWx xyx xcx xnx xrx Ex codex bmx bpx b t) 4 98 128 codex_571 :=
  And.intro (anx_563 Hy) (anx_570 Hy)
theorem anx_572 (Hy : Hyx tys cA base adS Ex) : xall (fun b t => xOK l Dg clx tys cA flx ftx base adS GWx xyx xcx xnx xrx Ex codex bmx bpx b t) 5 34 64 codex_572 :=
  And.intro (anx_556 Hy) (anx_571 Hy)
theorem anx_573 (Hy : Hyx tys cA base adS Ex) : xall (fun b t => xOK l Dg clx tys cA flx ftx base adS GWx xyx xcx xnx xrx Ex codex bmx bpx b t) 6 2 32 codex_573 :=
  And.intro (anx_541 Hy) (anx_572 Hy)
theorem anx_574 (Hy : Hyx tys cA base adS Ex) : xall (fun b t => xOK l Dg clx tys cA flx ftx base adS GWx xyx xcx xnx xrx Ex codex bmx bpx b t) 1 18 1024 codex_574 :=
  And.intro (okx_18 Hy) (okx_1042 Hy)
theorem anx_575 (Hy : Hyx tys cA base adS Ex) : xall (fun b t => xOK l Dg clx tys cA flx ftx base adS GWx xyx xcx xnx xrx Ex codex bmx bpx b t) 1 530 1024 codex_575 :=
  And.intro (okx_530 Hy) (okzx 1554)
theorem anx_576 (Hy : Hyx tys cA base adS Ex) : xall (fun b t => xOK l Dg clx tys cA flx ftx base adS GWx xyx xcx xnx xrx Ex codex bmx bpx b t) 2 18 512 codex_576 :=
  And.intro (anx_574 Hy) (anx_575 Hy)
theorem anx_577 (Hy : Hyx tys cA base adS Ex) : xall (fun b t => xOK l Dg clx tys cA flx ftx base adS GWx xyx xcx xnx xrx Ex codex bmx bpx b t) 1 274 1024 codex_577 :=
  And.intro (okx_274 Hy) (okzx 1298)
theorem anx_578 (Hy : Hyx tys cA base adS Ex) : xall (fun b t => xOK l Dg clx tys cA flx ftx base adS GWx xyx xcx xnx xrx Ex codex bmx bpx b t) 1 786 1024 codex_578 :=
  And.intro (okx_786 Hy) (okzx 1810)
theorem anx_579 (Hy : Hyx tys cA base adS Ex) : xall (fun b t => xOK l Dg clx tys cA flx ftx base adS GWx xyx xcx xnx xrx Ex codex bmx bpx b t) 2 274 512 codex_579 :=
  And.intro (anx_577 Hy) (anx_578 Hy)
theorem anx_580 (Hy : Hyx tys cA base adS Ex) : xall (fun b t => xOK l Dg clx tys cA flx ftx base adS GWx xyx xcx xnx xrx Ex codex bmx bpx b t) 3 18 256 codex_580 :=
  And.intro (anx_576 Hy) (anx_579 Hy)
theorem anx_581 (Hy : Hyx tys cA base adS Ex) : xall (fun b t => xOK l Dg clx tys cA flx ftx base adS GWx xyx xcx xnx xrx Ex codex bmx bpx b t) 1 146 1024 codex_581 :=
  And.intro (okx_146 Hy) (okx_1170 Hy)
theorem anx_582 (Hy : Hyx tys cA base adS Ex) : xall (fun b t => xOK l Dg clx tys cA flx ftx base adS GWx xyx xcx xnx xrx Ex codex bmx bpx b t) 1 658 1024 codex_582 :=
  And.intro (okx_658 Hy) (okzx 1682)
theorem anx_583 (Hy : Hyx tys cA base adS Ex) : xall (fun b t => xOK l Dg clx tys cA flx ftx base adS GWx xyx xcx xnx xrx Ex codex bmx bpx b t) 2 146 512 codex_583 :=
  And.intro (anx_581 Hy) (anx_582 Hy)
theorem anx_584 (Hy : Hyx tys cA base adS Ex) : xall (fun b t => xOK l Dg clx tys cA flx ftx base adS GWx xyx xcx xnx xrx Ex codex bmx bpx b t) 1 402 1024 codex_584 :=
  And.intro (okx_402 Hy) (okzx 1426)
theorem anx_585 (Hy : Hyx tys cA base adS Ex) : xall (fun b t => xOK l Dg clx tys cA flx ftx base adS GWx xyx xcx xnx xrx Ex codex bmx bpx b t) 1 914 1024 codex_585 :=
  And.intro (okx_914 Hy) (okzx 1938)
theorem anx_586 (Hy : Hyx tys cA base adS Ex) : xall (fun b t => xOK l Dg clx tys cA flx ftx base adS GWx xyx xcx xnx xrx Ex codex bmx bpx b t) 2 402 512 codex_586 :=
  And.intro (anx_584 Hy) (anx_585 Hy)
theorem anx_587 (Hy : Hyx tys cA base adS Ex) : xall (fun b t => xOK l Dg clx tys cA flx ftx base adS GWx xyx xcx xnx xrx Ex codex bmx bpx b t) 3 146 256 codex_587 :=
  And.intro (anx_583 Hy) (anx_586 Hy)
theorem anx_588 (Hy : Hyx tys cA base adS Ex) : xall (fun b t => xOK l Dg clx tys cA flx ftx base adS GWx xyx xcx xnx xrx Ex codex bmx bpx b t) 4 18 128 codex_588 :=
  And.intro (anx_580 Hy) (anx_587 Hy)
theorem anx_589 (Hy : Hyx tys cA base adS Ex) : xall (fun b t => xOK l Dg clx tys cA flx ftx base adS GWx xyx xcx xnx xrx Ex codex bmx bpx b t) 1 82 1024 codex_589 :=
  And.intro (okx_82 Hy) (okx_1106 Hy)
theorem anx_590 (Hy : Hyx tys cA base adS Ex) : xall (fun b t => xOK l Dg clx tys cA flx ftx base adS GWx xyx xcx xnx xrx Ex codex bmx bpx b t) 1 594 1024 codex_590 :=
  And.intro (okx_594 Hy) (okzx 1618)
theorem anx_591 (Hy : Hyx tys cA base adS Ex) : xall (fun b t => xOK l Dg clx tys cA flx ftx base adS GWx xyx xcx xnx xrx Ex codex bmx bpx b t) 2 82 512 codex_591 :=
  And.intro (anx_589 Hy) (anx_590 Hy)
theorem anx_592 (Hy : Hyx tys cA base adS Ex) : xall (fun b t => xOK l Dg clx tys cA flx ftx base adS GWx xyx xcx xnx xrx Ex codex bmx bpx b t) 1 338 1024 codex_592 :=
  And.intro (okx_338 Hy) (okzx 1362)
theorem anx_593 (Hy : Hyx tys cA base adS Ex) : xall (fun b t => xOK l Dg clx tys cA flx ftx base adS GWx xyx xcx xnx xrx Ex codex bmx bpx b t) 1 850 1024 codex_593 :=
  And.intro (okx_850 Hy) (okzx 1874)
theorem anx_594 (Hy : Hyx tys cA base adS Ex) : xall (fun b t => xOK l Dg clx tys cA flx ftx base adS GWx xyx xcx xnx xrx Ex codex bmx bpx b t) 2 338 512 codex_594 :=
  And.intro (anx_592 Hy) (anx_593 Hy)
theorem anx_595 (Hy : Hyx tys cA base adS Ex) : xall (fun b t => xOK l Dg clx tys cA flx ftx base adS GWx xyx xcx xnx xrx Ex codex bmx bpx b t) 3 82 256 codex_595 :=
  And.intro (anx_591 Hy) (anx_594 Hy)
theorem anx_596 (Hy : Hyx tys cA base adS Ex) : xall (fun b t => xOK l Dg clx tys cA flx ftx base adS GWx xyx xcx xnx xrx Ex codex bmx bpx b t) 1 210 1024 codex_596 :=
  And.intro (okx_210 Hy) (okzx 1234)
theorem anx_597 (Hy : Hyx tys cA base adS Ex) : xall (fun b t => xOK l Dg clx tys cA flx ftx base adS GWx xyx xcx xnx xrx Ex codex bmx bpx b t) 1 722 1024 codex_597 :=
  And.intro (okx_722 Hy) (okzx 1746)
theorem anx_598 (Hy : Hyx tys cA base adS Ex) : xall (fun b t => xOK l Dg clx tys cA flx ftx base adS GWx xyx xcx xnx xrx Ex codex bmx bpx b t) 2 210 512 codex_598 :=
  And.intro (anx_596 Hy) (anx_597 Hy)
theorem anx_599 (Hy : Hyx tys cA base adS Ex) : xall (fun b t => xOK l Dg clx tys cA flx ftx base adS GWx xyx xcx xnx xrx Ex codex bmx bpx b t) 1 466 1024 codex_599 :=
  And.intro (okx_466 Hy) (okzx 1490)
theorem anx_600 (Hy : Hyx tys cA base adS Ex) : xall (fun b t => xOK l Dg clx tys cA flx ftx base adS GWx xyx xcx xnx xrx Ex codex bmx bpx b t) 1 978 1024 codex_600 :=
  And.intro (okx_978 Hy) (okzx 2002)
theorem anx_601 (Hy : Hyx tys cA base adS Ex) : xall (fun b t => xOK l Dg clx tys cA flx ftx base adS GWx xyx xcx xnx xrx Ex codex bmx bpx b t) 2 466 512 codex_601 :=
  And.intro (anx_599 Hy) (anx_600 Hy)
theorem anx_602 (Hy : Hyx tys cA base adS Ex) : xall (fun b t => xOK l Dg clx tys cA flx ftx base adS GWx xyx xcx xnx xrx Ex codex bmx bpx b t) 3 210 256 codex_602 :=
  And.intro (anx_598 Hy) (anx_601 Hy)
theorem anx_603 (Hy : Hyx tys cA base adS Ex) : xall (fun b t => xOK l Dg clx tys cA flx ftx base adS GWx xyx xcx xnx xrx Ex codex bmx bpx b t) 4 82 128 codex_603 :=
  And.intro (anx_595 Hy) (anx_602 Hy)
theorem anx_604 (Hy : Hyx tys cA base adS Ex) : xall (fun b t => xOK l Dg clx tys cA flx ftx base adS GWx xyx xcx xnx xrx Ex codex bmx bpx b t) 5 18 64 codex_604 :=
  And.intro (anx_588 Hy) (anx_603 Hy)
theorem anx_605 (Hy : Hyx tys cA base adS Ex) : xall (fun b t => xOK l Dg clx tys cA flx ftx base adS GWx xyx xcx xnx xrx Ex codex bmx bpx b t) 1 50 1024 codex_605 :=
  And.intro (okx_50 Hy) (okx_1074 Hy)
theorem anx_606 (Hy : Hyx tys cA base adS Ex) : xall (fun b t => xOK l Dg clx tys cA flx ftx base adS GWx xyx xcx xnx xrx Ex codex bmx bpx b t) 1 562 1024 codex_606 :=
  And.intro (okx_562 Hy) (okzx 1586)
theorem anx_607 (Hy : Hyx tys cA base adS Ex) : xall (fun b t => xOK l Dg clx tys cA flx ftx base adS GWx xyx xcx xnx xrx Ex codex bmx bpx b t) 2 50 512 codex_607 :=
  And.intro (anx_605 Hy) (anx_606 Hy)
theorem anx_608 (Hy : Hyx tys cA base adS Ex) : xall (fun b t => xOK l Dg clx tys cA flx ftx base adS GWx xyx xcx xnx xrx Ex codex bmx bpx b t) 1 306 1024 codex_608 :=
  And.intro (okx_306 Hy) (okzx 1330)
theorem anx_609 (Hy : Hyx tys cA base adS Ex) : xall (fun b t => xOK l Dg clx tys cA flx ftx base adS GWx xyx xcx xnx xrx Ex codex bmx bpx b t) 1 818 1024 codex_609 :=
  And.intro (okx_818 Hy) (okzx 1842)
theorem anx_610 (Hy : Hyx tys cA base adS Ex) : xall (fun b t => xOK l Dg clx tys cA flx ftx base adS GWx xyx xcx xnx xrx Ex codex bmx bpx b t) 2 306 512 codex_610 :=
  And.intro (anx_608 Hy) (anx_609 Hy)
theorem anx_611 (Hy : Hyx tys cA base adS Ex) : xall (fun b t => xOK l Dg clx tys cA flx ftx base adS GWx xyx xcx xnx xrx Ex codex bmx bpx b t) 3 50 256 codex_611 :=
  And.intro (anx_607 Hy) (anx_610 Hy)
theorem anx_612 (Hy : Hyx tys cA base adS Ex) : xall (fun b t => xOK l Dg clx tys cA flx ftx base adS GWx xyx xcx xnx xrx Ex codex bmx bpx b t) 1 178 1024 codex_612 :=
  And.intro (okx_178 Hy) (okzx 1202)
theorem anx_613 (Hy : Hyx tys cA base adS Ex) : xall (fun b t => xOK l Dg clx tys cA flx ftx base adS GWx xyx xcx xnx xrx Ex codex bmx bpx b t) 1 690 1024 codex_613 :=
  And.intro (okx_690 Hy) (okzx 1714)
theorem anx_614 (Hy : Hyx tys cA base adS Ex) : xall (fun b t => xOK l Dg clx tys cA flx ftx base adS GWx xyx xcx xnx xrx Ex codex bmx bpx b t) 2 178 512 codex_614 :=
  And.intro (anx_612 Hy) (anx_613 Hy)
theorem anx_615 (Hy : Hyx tys cA base adS Ex) : xall (fun b t => xOK l Dg clx tys cA flx ftx base adS GWx xyx xcx xnx xrx Ex codex bmx bpx b t) 1 434 1024 codex_615 :=
  And.intro (okx_434 Hy) (okzx 1458)
theorem anx_616 (Hy : Hyx tys cA base adS Ex) : xall (fun b t => xOK l Dg clx tys cA flx ftx base adS GWx xyx xcx xnx xrx Ex codex bmx bpx b t) 1 946 1024 codex_616 :=
  And.intro (okx_946 Hy) (okzx 1970)
theorem anx_617 (Hy : Hyx tys cA base adS Ex) : xall (fun b t => xOK l Dg clx tys cA flx ftx base adS GWx xyx xcx xnx xrx Ex codex bmx bpx b t) 2 434 512 codex_617 :=
  And.intro (anx_615 Hy) (anx_616 Hy)
theorem anx_618 (Hy : Hyx tys cA base adS Ex) : xall (fun b t => xOK l Dg clx tys cA flx ftx base adS GWx xyx xcx xnx xrx Ex codex bmx bpx b t) 3 178 256 codex_618 :=
  And.intro (anx_614 Hy) (anx_617 Hy)
theorem anx_619 (Hy : Hyx tys cA base adS Ex) : xall (fun b t => xOK l Dg clx tys cA flx ftx base adS GWx xyx xcx xnx xrx Ex codex bmx bpx b t) 4 50 128 codex_619 :=
  And.intro (anx_611 Hy) (anx_618 Hy)
theorem anx_620 (Hy : Hyx tys cA base adS Ex) : xall (fun b t => xOK l Dg clx tys cA flx ftx base adS GWx xyx xcx xnx xrx Ex codex bmx bpx b t) 1 114 1024 codex_620 :=
  And.intro (okx_114 Hy) (okx_1138 Hy)
theorem anx_621 (Hy : Hyx tys cA base adS Ex) : xall (fun b t => xOK l Dg clx tys cA flx ftx base adS GWx xyx xcx xnx xrx Ex codex bmx bpx b t) 1 626 1024 codex_621 :=
  And.intro (okx_626 Hy) (okzx 1650)
theorem anx_622 (Hy : Hyx tys cA base adS Ex) : xall (fun b t => xOK l Dg clx tys cA flx ftx base adS GWx xyx xcx xnx xrx Ex codex bmx bpx b t) 2 114 512 codex_622 :=
  And.intro (anx_620 Hy) (anx_621 Hy)
theorem anx_623 (Hy : Hyx tys cA base adS Ex) : xall (fun b t => xOK l Dg clx tys cA flx ftx base adS GWx xyx xcx xnx xrx Ex codex bmx bpx b t) 1 370 1024 codex_623 :=
  And.intro (okx_370 Hy) (okzx 1394)
theorem anx_624 (Hy : Hyx tys cA base adS Ex) : xall (fun b t => xOK l Dg clx tys cA flx ftx base adS GWx xyx xcx xnx xrx Ex codex bmx bpx b t) 1 882 1024 codex_624 :=
  And.intro (okx_882 Hy) (okzx 1906)
theorem anx_625 (Hy : Hyx tys cA base adS Ex) : xall (fun b t => xOK l Dg clx tys cA flx ftx base adS GWx xyx xcx xnx xrx Ex codex bmx bpx b t) 2 370 512 codex_625 :=
  And.intro (anx_623 Hy) (anx_624 Hy)
theorem anx_626 (Hy : Hyx tys cA base adS Ex) : xall (fun b t => xOK l Dg clx tys cA flx ftx base adS GWx xyx xcx xnx xrx Ex codex bmx bpx b t) 3 114 256 codex_626 :=
  And.intro (anx_622 Hy) (anx_625 Hy)
theorem anx_627 (Hy : Hyx tys cA base adS Ex) : xall (fun b t => xOK l Dg clx tys cA flx ftx base adS GWx xyx xcx xnx xrx Ex codex bmx bpx b t) 1 242 1024 codex_627 :=
  And.intro (okx_242 Hy) (okzx 1266)
theorem anx_628 (Hy : Hyx tys cA base adS Ex) : xall (fun b t => xOK l Dg clx tys cA flx ftx base adS GWx xyx xcx xnx xrx Ex codex bmx bpx b t) 1 754 1024 codex_628 :=
  And.intro (okx_754 Hy) (okzx 1778)
theorem anx_629 (Hy : Hyx tys cA base adS Ex) : xall (fun b t => xOK l Dg clx tys cA flx ftx base adS GWx xyx xcx xnx xrx Ex codex bmx bpx b t) 2 242 512 codex_629 :=
  And.intro (anx_627 Hy) (anx_628 Hy)
theorem anx_630 (Hy : Hyx tys cA base adS Ex) : xall (fun b t => xOK l Dg clx tys cA flx ftx base adS GWx xyx xcx xnx xrx Ex codex bmx bpx b t) 1 498 1024 codex_630 :=
  And.intro (okx_498 Hy) (okzx 1522)
theorem anx_631 (Hy : Hyx tys cA base adS Ex) : xall (fun b t => xOK l Dg clx tys cA flx ftx base adS GWx xyx xcx xnx xrx Ex codex bmx bpx b t) 1 1010 1024 codex_631 :=
  And.intro (okx_1010 Hy) (okzx 2034)
theorem anx_632 (Hy : Hyx tys cA base adS Ex) : xall (fun b t => xOK l Dg clx tys cA flx ftx base adS GWx xyx xcx xnx xrx Ex codex bmx bpx b t) 2 498 512 codex_632 :=
  And.intro (anx_630 Hy) (anx_631 Hy)
theorem anx_633 (Hy : Hyx tys cA base adS Ex) : xall (fun b t => xOK l Dg clx tys cA flx ftx base adS GWx xyx xcx xnx xrx Ex codex bmx bpx b t) 3 242 256 codex_633 :=
  And.intro (anx_629 Hy) (anx_632 Hy)
theorem anx_634 (Hy : Hyx tys cA base adS Ex) : xall (fun b t => xOK l Dg clx tys cA flx ftx base adS GWx xyx xcx xnx xrx Ex codex bmx bpx b t) 4 114 128 codex_634 :=
  And.intro (anx_626 Hy) (anx_633 Hy)
theorem anx_635 (Hy : Hyx tys cA base adS Ex) : xall (fun b t => xOK l Dg clx tys cA flx ftx base adS GWx xyx xcx xnx xrx Ex codex bmx bpx b t) 5 50 64 codex_635 :=
  And.intro (anx_619 Hy) (anx_634 Hy)
theorem anx_636 (Hy : Hyx tys cA base adS Ex) : xall (fun b t => xOK l Dg clx tys cA flx ftx base adS GWx xyx xcx xnx xrx Ex codex bmx bpx b t) 6 18 32 codex_636 :=
  And.intro (anx_604 Hy) (anx_635 Hy)
theorem anx_637 (Hy : Hyx tys cA base adS Ex) : xall (fun b t => xOK l Dg clx tys cA flx ftx base adS GWx xyx xcx xnx xrx Ex codex bmx bpx b t) 7 2 16 codex_637 :=
  And.intro (anx_573 Hy) (anx_636 Hy)
theorem anx_638 (Hy : Hyx tys cA base adS Ex) : xall (fun b t => xOK l Dg clx tys cA flx ftx base adS GWx xyx xcx xnx xrx Ex codex bmx bpx b t) 1 10 1024 codex_638 :=
  And.intro (okx_10 Hy) (okx_1034 Hy)
theorem anx_639 (Hy : Hyx tys cA base adS Ex) : xall (fun b t => xOK l Dg clx tys cA flx ftx base adS GWx xyx xcx xnx xrx Ex codex bmx bpx b t) 1 522 1024 codex_639 :=
  And.intro (okx_522 Hy) (okzx 1546)
theorem anx_640 (Hy : Hyx tys cA base adS Ex) : xall (fun b t => xOK l Dg clx tys cA flx ftx base adS GWx xyx xcx xnx xrx Ex codex bmx bpx b t) 2 10 512 codex_640 :=
  And.intro (anx_638 Hy) (anx_639 Hy)
theorem anx_641 (Hy : Hyx tys cA base adS Ex) : xall (fun b t => xOK l Dg clx tys cA flx ftx base adS GWx xyx xcx xnx xrx Ex codex bmx bpx b t) 1 266 1024 codex_641 :=
  And.intro (okx_266 Hy) (okzx 1290)
theorem anx_642 (Hy : Hyx tys cA base adS Ex) : xall (fun b t => xOK l Dg clx tys cA flx ftx base adS GWx xyx xcx xnx xrx Ex codex bmx bpx b t) 1 778 1024 codex_642 :=
  And.intro (okx_778 Hy) (okzx 1802)
theorem anx_643 (Hy : Hyx tys cA base adS Ex) : xall (fun b t => xOK l Dg clx tys cA flx ftx base adS GWx xyx xcx xnx xrx Ex codex bmx bpx b t) 2 266 512 codex_643 :=
  And.intro (anx_641 Hy) (anx_642 Hy)
theorem anx_644 (Hy : Hyx tys cA base adS Ex) : xall (fun b t => xOK l Dg clx tys cA flx ftx base adS GWx xyx xcx xnx xrx Ex codex bmx bpx b t) 3 10 256 codex_644 :=
  And.intro (anx_640 Hy) (anx_643 Hy)
theorem anx_645 (Hy : Hyx tys cA base adS Ex) : xall (fun b t => xOK l Dg clx tys cA flx ftx base adS GWx xyx xcx xnx xrx Ex codex bmx bpx b t) 1 138 1024 codex_645 :=
  And.intro (okx_138 Hy) (okx_1162 Hy)
theorem anx_646 (Hy : Hyx tys cA base adS Ex) : xall (fun b t => xOK l Dg clx tys cA flx ftx base adS GWx xyx xcx xnx xrx Ex codex bmx bpx b t) 1 650 1024 codex_646 :=
  And.intro (okx_650 Hy) (okzx 1674)
theorem anx_647 (Hy : Hyx tys cA base adS Ex) : xall (fun b t => xOK l Dg clx tys cA flx ftx base adS GWx xyx xcx xnx xrx Ex codex bmx bpx b t) 2 138 512 codex_647 :=
  And.intro (anx_645 Hy) (anx_646 Hy)
theorem anx_648 (Hy : Hyx tys cA base adS Ex) : xall (fun b t => xOK l Dg clx tys cA flx ftx base adS GWx xyx xcx xnx xrx Ex codex bmx bpx b t) 1 394 1024 codex_648 :=
  And.intro (okx_394 Hy) (okzx 1418)
theorem anx_649 (Hy : Hyx tys cA base adS Ex) : xall (fun b t => xOK l Dg clx tys cA flx ftx base adS GWx xyx xcx xnx xrx Ex codex bmx bpx b t) 1 906 1024 codex_649 :=
  And.intro (okx_906 Hy) (okzx 1930)
theorem anx_650 (Hy : Hyx tys cA base adS Ex) : xall (fun b t => xOK l Dg clx tys cA flx ftx base adS GWx xyx xcx xnx xrx Ex codex bmx bpx b t) 2 394 512 codex_650 :=
  And.intro (anx_648 Hy) (anx_649 Hy)
theorem anx_651 (Hy : Hyx tys cA base adS Ex) : xall (fun b t => xOK l Dg clx tys cA flx ftx base adS GWx xyx xcx xnx xrx Ex codex bmx bpx b t) 3 138 256 codex_651 :=
  And.intro (anx_647 Hy) (anx_650 Hy)
theorem anx_652 (Hy : Hyx tys cA base adS Ex) : xall (fun b t => xOK l Dg clx tys cA flx ftx base adS GWx xyx xcx xnx xrx Ex codex bmx bpx b t) 4 10 128 codex_652 :=
  And.intro (anx_644 Hy) (anx_651 Hy)
theorem anx_653 (Hy : Hyx tys cA base adS Ex) : xall (fun b t => xOK l Dg clx tys cA flx ftx base adS GWx xyx xcx xnx xrx Ex codex bmx bpx b t) 1 74 1024 codex_653 :=
  And.intro (okx_74 Hy) (okx_1098 Hy)
theorem anx_654 (Hy : Hyx tys cA base adS Ex) : xall (fun b t => xOK l Dg clx tys cA flx ftx base adS GWx xyx xcx xnx xrx Ex codex bmx bpx b t) 1 586 1024 codex_654 :=
  And.intro (okx_586 Hy) (okzx 1610)
theorem anx_655 (Hy : Hyx tys cA base adS Ex) : xall (fun b t => xOK l Dg clx tys cA flx ftx base adS GWx xyx xcx xnx xrx Ex codex bmx bpx b t) 2 74 512 codex_655 :=
  And.intro (anx_653 Hy) (anx_654 Hy)
theorem anx_656 (Hy : Hyx tys cA base adS Ex) : xall (fun b t => xOK l Dg clx tys cA flx ftx base adS GWx xyx xcx xnx xrx Ex codex bmx bpx b t) 1 330 1024 codex_656 :=
  And.intro (okx_330 Hy) (okzx 1354)
theorem anx_657 (Hy : Hyx tys cA base adS Ex) : xall (fun b t => xOK l Dg clx tys cA flx ftx base adS GWx xyx xcx xnx xrx Ex codex bmx bpx b t) 1 842 1024 codex_657 :=
  And.intro (okx_842 Hy) (okzx 1866)
theorem anx_658 (Hy : Hyx tys cA base adS Ex) : xall (fun b t => xOK l Dg clx tys cA flx ftx base adS GWx xyx xcx xnx xrx Ex codex bmx bpx b t) 2 330 512 codex_658 :=
  And.intro (anx_656 Hy) (anx_657 Hy)
theorem anx_659 (Hy : Hyx tys cA base adS Ex) : xall (fun b t => xOK l Dg clx tys cA flx ftx base adS GWx xyx xcx xnx xrx Ex codex bmx bpx b t) 3 74 256 codex_659 :=
  And.intro (anx_655 Hy) (anx_658 Hy)
theorem anx_660 (Hy : Hyx tys cA base adS Ex) : xall (fun b t => xOK l Dg clx tys cA flx ftx base adS GWx xyx xcx xnx xrx Ex codex bmx bpx b t) 1 202 1024 codex_660 :=
  And.intro (okx_202 Hy) (okzx 1226)
theorem anx_661 (Hy : Hyx tys cA base adS Ex) : xall (fun b t => xOK l Dg clx tys cA flx ftx base adS GWx xyx xcx xnx xrx Ex codex bmx bpx b t) 1 714 1024 codex_661 :=
  And.intro (okx_714 Hy) (okzx 1738)
theorem anx_662 (Hy : Hyx tys cA base adS Ex) : xall (fun b t => xOK l Dg clx tys cA flx ftx base adS GWx xyx xcx xnx xrx Ex codex bmx bpx b t) 2 202 512 codex_662 :=
  And.intro (anx_660 Hy) (anx_661 Hy)
theorem anx_663 (Hy : Hyx tys cA base adS Ex) : xall (fun b t => xOK l Dg clx tys cA flx ftx base adS GWx xyx xcx xnx xrx Ex codex bmx bpx b t) 1 458 1024 codex_663 :=
  And.intro (okx_458 Hy) (okzx 1482)
theorem anx_664 (Hy : Hyx tys cA base adS Ex) : xall (fun b t => xOK l Dg clx tys cA flx ftx base adS GWx xyx xcx xnx xrx Ex codex bmx bpx b t) 1 970 1024 codex_664 :=
  And.intro (okx_970 Hy) (okzx 1994)
theorem anx_665 (Hy : Hyx tys cA base adS Ex) : xall (fun b t => xOK l Dg clx tys cA flx ftx base adS GWx xyx xcx xnx xrx Ex codex bmx bpx b t) 2 458 512 codex_665 :=
  And.intro (anx_663 Hy) (anx_664 Hy)
theorem anx_666 (Hy : Hyx tys cA base adS Ex) : xall (fun b t => xOK l Dg clx tys cA flx ftx base adS GWx xyx xcx xnx xrx Ex codex bmx bpx b t) 3 202 256 codex_666 :=
  And.intro (anx_662 Hy) (anx_665 Hy)
theorem anx_667 (Hy : Hyx tys cA base adS Ex) : xall (fun b t => xOK l Dg clx tys cA flx ftx base adS GWx xyx xcx xnx xrx Ex codex bmx bpx b t) 4 74 128 codex_667 :=
  And.intro (anx_659 Hy) (anx_666 Hy)
theorem anx_668 (Hy : Hyx tys cA base adS Ex) : xall (fun b t => xOK l Dg clx tys cA flx ftx base adS GWx xyx xcx xnx xrx Ex codex bmx bpx b t) 5 10 64 codex_668 :=
  And.intro (anx_652 Hy) (anx_667 Hy)
theorem anx_669 (Hy : Hyx tys cA base adS Ex) : xall (fun b t => xOK l Dg clx tys cA flx ftx base adS GWx xyx xcx xnx xrx Ex codex bmx bpx b t) 1 42 1024 codex_669 :=
  And.intro (okx_42 Hy) (okx_1066 Hy)
theorem anx_670 (Hy : Hyx tys cA base adS Ex) : xall (fun b t => xOK l Dg clx tys cA flx ftx base adS GWx xyx xcx xnx xrx Ex codex bmx bpx b t) 1 554 1024 codex_670 :=
  And.intro (okx_554 Hy) (okzx 1578)
theorem anx_671 (Hy : Hyx tys cA base adS Ex) : xall (fun b t => xOK l Dg clx tys cA flx ftx base adS GWx xyx xcx xnx xrx Ex codex bmx bpx b t) 2 42 512 codex_671 :=
  And.intro (anx_669 Hy) (anx_670 Hy)
theorem anx_672 (Hy : Hyx tys cA base adS Ex) : xall (fun b t => xOK l Dg clx tys cA flx ftx base adS GWx xyx xcx xnx xrx Ex codex bmx bpx b t) 1 298 1024 codex_672 :=
  And.intro (okx_298 Hy) (okzx 1322)
theorem anx_673 (Hy : Hyx tys cA base adS Ex) : xall (fun b t => xOK l Dg clx tys cA flx ftx base adS GWx xyx xcx xnx xrx Ex codex bmx bpx b t) 1 810 1024 codex_673 :=
  And.intro (okx_810 Hy) (okzx 1834)
theorem anx_674 (Hy : Hyx tys cA base adS Ex) : xall (fun b t => xOK l Dg clx tys cA flx ftx base adS GWx xyx xcx xnx xrx Ex codex bmx bpx b t) 2 298 512 codex_674 :=
  And.intro (anx_672 Hy) (anx_673 Hy)
theorem anx_675 (Hy : Hyx tys cA base adS Ex) : xall (fun b t => xOK l Dg clx tys cA flx ftx base adS GWx xyx xcx xnx xrx Ex codex bmx bpx b t) 3 42 256 codex_675 :=
  And.intro (anx_671 Hy) (anx_674 Hy)
theorem anx_676 (Hy : Hyx tys cA base adS Ex) : xall (fun b t => xOK l Dg clx tys cA flx ftx base adS GWx xyx xcx xnx xrx Ex codex bmx bpx b t) 1 170 1024 codex_676 :=
  And.intro (okx_170 Hy) (okx_1194 Hy)
theorem anx_677 (Hy : Hyx tys cA base adS Ex) : xall (fun b t => xOK l Dg clx tys cA flx ftx base adS GWx xyx xcx xnx xrx Ex codex bmx bpx b t) 1 682 1024 codex_677 :=
  And.intro (okx_682 Hy) (okzx 1706)
theorem anx_678 (Hy : Hyx tys cA base adS Ex) : xall (fun b t => xOK l Dg clx tys cA flx ftx base adS GWx xyx xcx xnx xrx Ex codex bmx bpx b t) 2 170 512 codex_678 :=
  And.intro (anx_676 Hy) (anx_677 Hy)
theorem anx_679 (Hy : Hyx tys cA base adS Ex) : xall (fun b t => xOK l Dg clx tys cA flx ftx base adS GWx xyx xcx xnx xrx Ex codex bmx bpx b t) 1 426 1024 codex_679 :=
  And.intro (okx_426 Hy) (okzx 1450)
theorem anx_680 (Hy : Hyx tys cA base adS Ex) : xall (fun b t => xOK l Dg clx tys cA flx ftx base adS GWx xyx xcx xnx xrx Ex codex bmx bpx b t) 1 938 1024 codex_680 :=
  And.intro (okx_938 Hy) (okzx 1962)
theorem anx_681 (Hy : Hyx tys cA base adS Ex) : xall (fun b t => xOK l Dg clx tys cA flx ftx base adS GWx xyx xcx xnx xrx Ex codex bmx bpx b t) 2 426 512 codex_681 :=
  And.intro (anx_679 Hy) (anx_680 Hy)
theorem anx_682 (Hy : Hyx tys cA base adS Ex) : xall (fun b t => xOK l Dg clx tys cA flx ftx base adS GWx xyx xcx xnx xrx Ex codex bmx bpx b t) 3 170 256 codex_682 :=
  And.intro (anx_678 Hy) (anx_681 Hy)
theorem anx_683 (Hy : Hyx tys cA base adS Ex) : xall (fun b t => xOK l Dg clx tys cA flx ftx base adS GWx xyx xcx xnx xrx Ex codex bmx bpx b t) 4 42 128 codex_683 :=
  And.intro (anx_675 Hy) (anx_682 Hy)
theorem anx_684 (Hy : Hyx tys cA base adS Ex) : xall (fun b t => xOK l Dg clx tys cA flx ftx base adS GWx xyx xcx xnx xrx Ex codex bmx bpx b t) 1 106 1024 codex_684 :=
  And.intro (okx_106 Hy) (okx_1130 Hy)
theorem anx_685 (Hy : Hyx tys cA base adS Ex) : xall (fun b t => xOK l Dg clx tys cA flx ftx base adS GWx xyx xcx xnx xrx Ex codex bmx bpx b t) 1 618 1024 codex_685 :=
  And.intro (okx_618 Hy) (okzx 1642)
theorem anx_686 (Hy : Hyx tys cA base adS Ex) : xall (fun b t => xOK l Dg clx tys cA flx ftx base adS GWx xyx xcx xnx xrx Ex codex bmx bpx b t) 2 106 512 codex_686 :=
  And.intro (anx_684 Hy) (anx_685 Hy)
theorem anx_687 (Hy : Hyx tys cA base adS Ex) : xall (fun b t => xOK l Dg clx tys cA flx ftx base adS GWx xyx xcx xnx xrx Ex codex bmx bpx b t) 1 362 1024 codex_687 :=
  And.intro (okx_362 Hy) (okzx 1386)
theorem anx_688 (Hy : Hyx tys cA base adS Ex) : xall (fun b t => xOK l Dg clx tys cA flx ftx base adS GWx xyx xcx xnx xrx Ex codex bmx bpx b t) 1 874 1024 codex_688 :=
  And.intro (okx_874 Hy) (okzx 1898)
theorem anx_689 (Hy : Hyx tys cA base adS Ex) : xall (fun b t => xOK l Dg clx tys cA flx ftx base adS GWx xyx xcx xnx xrx Ex codex bmx bpx b t) 2 362 512 codex_689 :=
  And.intro (anx_687 Hy) (anx_688 Hy)
theorem anx_690 (Hy : Hyx tys cA base adS Ex) : xall (fun b t => xOK l Dg clx tys cA flx ftx base adS GWx xyx xcx xnx xrx Ex codex bmx bpx b t) 3 106 256 codex_690 :=
  And.intro (anx_686 Hy) (anx_689 Hy)
theorem anx_691 (Hy : Hyx tys cA base adS Ex) : xall (fun b t => xOK l Dg clx tys cA flx ftx base adS GWx xyx xcx xnx xrx Ex codex bmx bpx b t) 1 234 1024 codex_691 :=
  And.intro (okx_234 Hy) (okzx 1258)
theorem anx_692 (Hy : Hyx tys cA base adS Ex) : xall (fun b t => xOK l Dg clx tys cA flx ftx base adS GWx xyx xcx xnx xrx Ex codex bmx bpx b t) 1 746 1024 codex_692 :=
  And.intro (okx_746 Hy) (okzx 1770)
theorem anx_693 (Hy : Hyx tys cA base adS Ex) : xall (fun b t => xOK l Dg clx tys cA flx ftx base adS GWx xyx xcx xnx xrx Ex codex bmx bpx b t) 2 234 512 codex_693 :=
  And.intro (anx_691 Hy) (anx_692 Hy)
theorem anx_694 (Hy : Hyx tys cA base adS Ex) : xall (fun b t => xOK l Dg clx tys cA flx ftx base adS GWx xyx xcx xnx xrx Ex codex bmx bpx b t) 1 490 1024 codex_694 :=
  And.intro (okx_490 Hy) (okzx 1514)
theorem anx_695 (Hy : Hyx tys cA base adS Ex) : xall (fun b t => xOK l Dg clx tys cA flx ftx base adS GWx xyx xcx xnx xrx Ex codex bmx bpx b t) 1 1002 1024 codex_695 :=
  And.intro (okx_1002 Hy) (okzx 2026)
theorem anx_696 (Hy : Hyx tys cA base adS Ex) : xall (fun b t => xOK l Dg clx tys cA flx ftx base adS GWx xyx xcx xnx xrx Ex codex bmx bpx b t) 2 490 512 codex_696 :=
  And.intro (anx_694 Hy) (anx_695 Hy)
theorem anx_697 (Hy : Hyx tys cA base adS Ex) : xall (fun b t => xOK l Dg clx tys cA flx ftx base adS GWx xyx xcx xnx xrx Ex codex bmx bpx b t) 3 234 256 codex_697 :=
  And.intro (anx_693 Hy) (anx_696 Hy)
theorem anx_698 (Hy : Hyx tys cA base adS Ex) : xall (fun b t => xOK l Dg clx tys cA flx ftx base adS GWx xyx xcx xnx xrx Ex codex bmx bpx b t) 4 106 128 codex_698 :=
  And.intro (anx_690 Hy) (anx_697 Hy)
theorem anx_699 (Hy : Hyx tys cA base adS Ex) : xall (fun b t => xOK l Dg clx tys cA flx ftx base adS GWx xyx xcx xnx xrx Ex codex bmx bpx b t) 5 42 64 codex_699 :=
  And.intro (anx_683 Hy) (anx_698 Hy)
theorem anx_700 (Hy : Hyx tys cA base adS Ex) : xall (fun b t => xOK l Dg clx tys cA flx ftx base adS GWx xyx xcx xnx xrx Ex codex bmx bpx b t) 6 10 32 codex_700 :=
  And.intro (anx_668 Hy) (anx_699 Hy)
theorem anx_701 (Hy : Hyx tys cA base adS Ex) : xall (fun b t => xOK l Dg clx tys cA flx ftx base adS GWx xyx xcx xnx xrx Ex codex bmx bpx b t) 1 26 1024 codex_701 :=
  And.intro (okx_26 Hy) (okx_1050 Hy)
theorem anx_702 (Hy : Hyx tys cA base adS Ex) : xall (fun b t => xOK l Dg clx tys cA flx ftx base adS GWx xyx xcx xnx xrx Ex codex bmx bpx b t) 1 538 1024 codex_702 :=
  And.intro (okx_538 Hy) (okzx 1562)
theorem anx_703 (Hy : Hyx tys cA base adS Ex) : xall (fun b t => xOK l Dg clx tys cA flx ftx base adS GWx xyx xcx xnx xrx Ex codex bmx bpx b t) 2 26 512 codex_703 :=
  And.intro (anx_701 Hy) (anx_702 Hy)
theorem anx_704 (Hy : Hyx tys cA base adS Ex) : xall (fun b t => xOK l Dg clx tys cA flx ftx base adS GWx xyx xcx xnx xrx Ex codex bmx bpx b t) 1 282 1024 codex_704 :=
  And.intro (okx_282 Hy) (okzx 1306)
theorem anx_705 (Hy : Hyx tys cA base adS Ex) : xall (fun b t => xOK l Dg clx tys cA flx ftx base adS GWx xyx xcx xnx xrx Ex codex bmx bpx b t) 1 794 1024 codex_705 :=
  And.intro (okx_794 Hy) (okzx 1818)
theorem anx_706 (Hy : Hyx tys cA base adS Ex) : xall (fun b t => xOK l Dg clx tys cA flx ftx base adS GWx xyx xcx xnx xrx Ex codex bmx bpx b t) 2 282 512 codex_706 :=
  And.intro (anx_704 Hy) (anx_705 Hy)
theorem anx_707 (Hy : Hyx tys cA base adS Ex) : xall (fun b t => xOK l Dg clx tys cA flx ftx base adS GWx xyx xcx xnx xrx Ex codex bmx bpx b t) 3 26 256 codex_707 :=
  And.intro (anx_703 Hy) (anx_706 Hy)
theorem anx_708 (Hy : Hyx tys cA base adS Ex) : xall (fun b t => xOK l Dg clx tys cA flx ftx base adS GWx xyx xcx xnx xrx Ex codex bmx bpx b t) 1 154 1024 codex_708 :=
  And.intro (okx_154 Hy) (okx_1178 Hy)
theorem anx_709 (Hy : Hyx tys cA base adS Ex) : xall (fun b t => xOK l Dg clx tys cA flx ftx base adS GWx xyx xcx xnx xrx Ex codex bmx bpx b t) 1 666 1024 codex_709 :=
  And.intro (okx_666 Hy) (okzx 1690)
theorem anx_710 (Hy : Hyx tys cA base adS Ex) : xall (fun b t => xOK l Dg clx tys cA flx ftx base adS GWx xyx xcx xnx xrx Ex codex bmx bpx b t) 2 154 512 codex_710 :=
  And.intro (anx_708 Hy) (anx_709 Hy)
theorem anx_711 (Hy : Hyx tys cA base adS Ex) : xall (fun b t => xOK l Dg clx tys cA flx ftx base adS GWx xyx xcx xnx xrx Ex codex bmx bpx b t) 1 410 1024 codex_711 :=
  And.intro (okx_410 Hy) (okzx 1434)
theorem anx_712 (Hy : Hyx tys cA base adS Ex) : xall (fun b t => xOK l Dg clx tys cA flx ftx base adS GWx xyx xcx xnx xrx Ex codex bmx bpx b t) 1 922 1024 codex_712 :=
  And.intro (okx_922 Hy) (okzx 1946)
theorem anx_713 (Hy : Hyx tys cA base adS Ex) : xall (fun b t => xOK l Dg clx tys cA flx ftx base adS GWx xyx xcx xnx xrx Ex codex bmx bpx b t) 2 410 512 codex_713 :=
  And.intro (anx_711 Hy) (anx_712 Hy)
theorem anx_714 (Hy : Hyx tys cA base adS Ex) : xall (fun b t => xOK l Dg clx tys cA flx ftx base adS GWx xyx xcx xnx xrx Ex codex bmx bpx b t) 3 154 256 codex_714 :=
  And.intro (anx_710 Hy) (anx_713 Hy)
theorem anx_715 (Hy : Hyx tys cA base adS Ex) : xall (fun b t => xOK l Dg clx tys cA flx ftx base adS GWx xyx xcx xnx xrx Ex codex bmx bpx b t) 4 26 128 codex_715 :=
  And.intro (anx_707 Hy) (anx_714 Hy)
theorem anx_716 (Hy : Hyx tys cA base adS Ex) : xall (fun b t => xOK l Dg clx tys cA flx ftx base adS GWx xyx xcx xnx xrx Ex codex bmx bpx b t) 1 90 1024 codex_716 :=
  And.intro (okx_90 Hy) (okx_1114 Hy)
theorem anx_717 (Hy : Hyx tys cA base adS Ex) : xall (fun b t => xOK l Dg clx tys cA flx ftx base adS GWx xyx xcx xnx xrx Ex codex bmx bpx b t) 1 602 1024 codex_717 :=
  And.intro (okx_602 Hy) (okzx 1626)
theorem anx_718 (Hy : Hyx tys cA base adS Ex) : xall (fun b t => xOK l Dg clx tys cA flx ftx base adS GWx xyx xcx xnx xrx Ex codex bmx bpx b t) 2 90 512 codex_718 :=
  And.intro (anx_716 Hy) (anx_717 Hy)
theorem anx_719 (Hy : Hyx tys cA base adS Ex) : xall (fun b t => xOK l Dg clx tys cA flx ftx base adS GWx xyx xcx xnx xrx Ex codex bmx bpx b t) 1 346 1024 codex_719 :=
  And.intro (okx_346 Hy) (okzx 1370)
theorem anx_720 (Hy : Hyx tys cA base adS Ex) : xall (fun b t => xOK l Dg clx tys cA flx ftx base adS GWx xyx xcx xnx xrx Ex codex bmx bpx b t) 1 858 1024 codex_720 :=
  And.intro (okx_858 Hy) (okzx 1882)
theorem anx_721 (Hy : Hyx tys cA base adS Ex) : xall (fun b t => xOK l Dg clx tys cA flx ftx base adS GWx xyx xcx xnx xrx Ex codex bmx bpx b t) 2 346 512 codex_721 :=
  And.intro (anx_719 Hy) (anx_720 Hy)
theorem anx_722 (Hy : Hyx tys cA base adS Ex) : xall (fun b t => xOK l Dg clx tys cA flx ftx base adS GWx xyx xcx xnx xrx Ex codex bmx bpx b t) 3 90 256 codex_722 :=
  And.intro (anx_718 Hy) (anx_721 Hy)
theorem anx_723 (Hy : Hyx tys cA base adS Ex) : xall (fun b t => xOK l Dg clx tys cA flx ftx base adS GWx xyx xcx xnx xrx Ex codex bmx bpx b t) 1 218 1024 codex_723 :=
  And.intro (okx_218 Hy) (okzx 1242)
theorem anx_724 (Hy : Hyx tys cA base adS Ex) : xall (fun b t => xOK l Dg clx tys cA flx ftx base adS GWx xyx xcx xnx xrx Ex codex bmx bpx b t) 1 730 1024 codex_724 :=
  And.intro (okx_730 Hy) (okzx 1754)
theorem anx_725 (Hy : Hyx tys cA base adS Ex) : xall (fun b t => xOK l Dg clx tys cA flx ftx base adS GWx xyx xcx xnx xrx Ex codex bmx bpx b t) 2 218 512 codex_725 :=
  And.intro (anx_723 Hy) (anx_724 Hy)
theorem anx_726 (Hy : Hyx tys cA base adS Ex) : xall (fun b t => xOK l Dg clx tys cA flx ftx base adS GWx xyx xcx xnx xrx Ex codex bmx bpx b t) 1 474 1024 codex_726 :=
  And.intro (okx_474 Hy) (okzx 1498)
theorem anx_727 (Hy : Hyx tys cA base adS Ex) : xall (fun b t => xOK l Dg clx tys cA flx ftx base adS GWx xyx xcx xnx xrx Ex codex bmx bpx b t) 1 986 1024 codex_727 :=
  And.intro (okx_986 Hy) (okzx 2010)
theorem anx_728 (Hy : Hyx tys cA base adS Ex) : xall (fun b t => xOK l Dg clx tys cA flx ftx base adS GWx xyx xcx xnx xrx Ex codex bmx bpx b t) 2 474 512 codex_728 :=
  And.intro (anx_726 Hy) (anx_727 Hy)
theorem anx_729 (Hy : Hyx tys cA base adS Ex) : xall (fun b t => xOK l Dg clx tys cA flx ftx base adS GWx xyx xcx xnx xrx Ex codex bmx bpx b t) 3 218 256 codex_729 :=
  And.intro (anx_725 Hy) (anx_728 Hy)
theorem anx_730 (Hy : Hyx tys cA base adS Ex) : xall (fun b t => xOK l Dg clx tys cA flx ftx base adS GWx xyx xcx xnx xrx Ex codex bmx bpx b t) 4 90 128 codex_730 :=
  And.intro (anx_722 Hy) (anx_729 Hy)
theorem anx_731 (Hy : Hyx tys cA base adS Ex) : xall (fun b t => xOK l Dg clx tys cA flx ftx base adS GWx xyx xcx xnx xrx Ex codex bmx bpx b t) 5 26 64 codex_731 :=
  And.intro (anx_715 Hy) (anx_730 Hy)
theorem anx_732 (Hy : Hyx tys cA base adS Ex) : xall (fun b t => xOK l Dg clx tys cA flx ftx base adS GWx xyx xcx xnx xrx Ex codex bmx bpx b t) 1 58 1024 codex_732 :=
  And.intro (okx_58 Hy) (okx_1082 Hy)
theorem anx_733 (Hy : Hyx tys cA base adS Ex) : xall (fun b t => xOK l Dg clx tys cA flx ftx base adS GWx xyx xcx xnx xrx Ex codex bmx bpx b t) 1 570 1024 codex_733 :=
  And.intro (okx_570 Hy) (okzx 1594)
theorem anx_734 (Hy : Hyx tys cA base adS Ex) : xall (fun b t => xOK l Dg clx tys cA flx ftx base adS GWx xyx xcx xnx xrx Ex codex bmx bpx b t) 2 58 512 codex_734 :=
  And.intro (anx_732 Hy) (anx_733 Hy)
theorem anx_735 (Hy : Hyx tys cA base adS Ex) : xall (fun b t => xOK l Dg clx tys cA flx ftx base adS GWx xyx xcx xnx xrx Ex codex bmx bpx b t) 1 314 1024 codex_735 :=
  And.intro (okx_314 Hy) (okzx 1338)
theorem anx_736 (Hy : Hyx tys cA base adS Ex) : xall (fun b t => xOK l Dg clx tys cA flx ftx base adS GWx xyx xcx xnx xrx Ex codex bmx bpx b t) 1 826 1024 codex_736 :=
  And.intro (okx_826 Hy) (okzx 1850)
theorem anx_737 (Hy : Hyx tys cA base adS Ex) : xall (fun b t => xOK l Dg clx tys cA flx ftx base adS GWx xyx xcx xnx xrx Ex codex bmx bpx b t) 2 314 512 codex_737 :=
  And.intro (anx_735 Hy) (anx_736 Hy)
theorem anx_738 (Hy : Hyx tys cA base adS Ex) : xall (fun b t => xOK l Dg clx tys cA flx ftx base adS GWx xyx xcx xnx xrx Ex codex bmx bpx b t) 3 58 256 codex_738 :=
  And.intro (anx_734 Hy) (anx_737 Hy)
theorem anx_739 (Hy : Hyx tys cA base adS Ex) : xall (fun b t => xOK l Dg clx tys cA flx ftx base adS GWx xyx xcx xnx xrx Ex codex bmx bpx b t) 1 186 1024 codex_739 :=
  And.intro (okx_186 Hy) (okzx 1210)
theorem anx_740 (Hy : Hyx tys cA base adS Ex) : xall (fun b t => xOK l Dg clx tys cA flx ftx base adS GWx xyx xcx xnx xrx Ex codex bmx bpx b t) 1 698 1024 codex_740 :=
  And.intro (okx_698 Hy) (okzx 1722)
theorem anx_741 (Hy : Hyx tys cA base adS Ex) : xall (fun b t => xOK l Dg clx tys cA flx ftx base adS GWx xyx xcx xnx xrx Ex codex bmx bpx b t) 2 186 512 codex_741 :=
  And.intro (anx_739 Hy) (anx_740 Hy)
theorem anx_742 (Hy : Hyx tys cA base adS Ex) : xall (fun b t => xOK l Dg clx tys cA flx ftx base adS GWx xyx xcx xnx xrx Ex codex bmx bpx b t) 1 442 1024 codex_742 :=
  And.intro (okx_442 Hy) (okzx 1466)
theorem anx_743 (Hy : Hyx tys cA base adS Ex) : xall (fun b t => xOK l Dg clx tys cA flx ftx base adS GWx xyx xcx xnx xrx Ex codex bmx bpx b t) 1 954 1024 codex_743 :=
  And.intro (okx_954 Hy) (okzx 1978)
theorem anx_744 (Hy : Hyx tys cA base adS Ex) : xall (fun b t => xOK l Dg clx tys cA flx ftx base adS GWx xyx xcx xnx xrx Ex codex bmx bpx b t) 2 442 512 codex_744 :=
  And.intro (anx_742 Hy) (anx_743 Hy)
theorem anx_745 (Hy : Hyx tys cA base adS Ex) : xall (fun b t => xOK l Dg clx tys cA flx ftx base adS GWx xyx xcx xnx xrx Ex codex bmx bpx b t) 3 186 256 codex_745 :=
  And.intro (anx_741 Hy) (anx_744 Hy)
theorem anx_746 (Hy : Hyx tys cA base adS Ex) : xall (fun b t => xOK l Dg clx tys cA flx ftx base adS GWx xyx xcx xnx xrx Ex codex bmx bpx b t) 4 58 128 codex_746 :=
  And.intro (anx_738 Hy) (anx_745 Hy)
theorem anx_747 (Hy : Hyx tys cA base adS Ex) : xall (fun b t => xOK l Dg clx tys cA flx ftx base adS GWx xyx xcx xnx xrx Ex codex bmx bpx b t) 1 122 1024 codex_747 :=
  And.intro (okx_122 Hy) (okx_1146 Hy)
theorem anx_748 (Hy : Hyx tys cA base adS Ex) : xall (fun b t => xOK l Dg clx tys cA flx ftx base adS GWx xyx xcx xnx xrx Ex codex bmx bpx b t) 1 634 1024 codex_748 :=
  And.intro (okx_634 Hy) (okzx 1658)
theorem anx_749 (Hy : Hyx tys cA base adS Ex) : xall (fun b t => xOK l Dg clx tys cA flx ftx base adS GWx xyx xcx xnx xrx Ex codex bmx bpx b t) 2 122 512 codex_749 :=
  And.intro (anx_747 Hy) (anx_748 Hy)
theorem anx_750 (Hy : Hyx tys cA base adS Ex) : xall (fun b t => xOK l Dg clx tys cA flx ftx base adS GWx xyx xcx xnx xrx Ex codex bmx bpx b t) 1 378 1024 codex_750 :=
  And.intro (okx_378 Hy) (okzx 1402)
theorem anx_751 (Hy : Hyx tys cA base adS Ex) : xall (fun b t => xOK l Dg clx tys cA flx ftx base adS GWx xyx xcx xnx xrx Ex codex bmx bpx b t) 1 890 1024 codex_751 :=
  And.intro (okx_890 Hy) (okzx 1914)
theorem anx_752 (Hy : Hyx tys cA base adS Ex) : xall (fun b t => xOK l Dg clx tys cA flx ftx base adS GWx xyx xcx xnx xrx Ex codex bmx bpx b t) 2 378 512 codex_752 :=
  And.intro (anx_750 Hy) (anx_751 Hy)
theorem anx_753 (Hy : Hyx tys cA base adS Ex) : xall (fun b t => xOK l Dg clx tys cA flx ftx base adS GWx xyx xcx xnx xrx Ex codex bmx bpx b t) 3 122 256 codex_753 :=
  And.intro (anx_749 Hy) (anx_752 Hy)
theorem anx_754 (Hy : Hyx tys cA base adS Ex) : xall (fun b t => xOK l Dg clx tys cA flx ftx base adS GWx xyx xcx xnx xrx Ex codex bmx bpx b t) 1 250 1024 codex_754 :=
  And.intro (okx_250 Hy) (okzx 1274)
theorem anx_755 (Hy : Hyx tys cA base adS Ex) : xall (fun b t => xOK l Dg clx tys cA flx ftx base adS GWx xyx xcx xnx xrx Ex codex bmx bpx b t) 1 762 1024 codex_755 :=
  And.intro (okx_762 Hy) (okzx 1786)
theorem anx_756 (Hy : Hyx tys cA base adS Ex) : xall (fun b t => xOK l Dg clx tys cA flx ftx base adS GWx xyx xcx xnx xrx Ex codex bmx bpx b t) 2 250 512 codex_756 :=
  And.intro (anx_754 Hy) (anx_755 Hy)
theorem anx_757 (Hy : Hyx tys cA base adS Ex) : xall (fun b t => xOK l Dg clx tys cA flx ftx base adS GWx xyx xcx xnx xrx Ex codex bmx bpx b t) 1 506 1024 codex_757 :=
  And.intro (okx_506 Hy) (okzx 1530)
theorem anx_758 (Hy : Hyx tys cA base adS Ex) : xall (fun b t => xOK l Dg clx tys cA flx ftx base adS GWx xyx xcx xnx xrx Ex codex bmx bpx b t) 1 1018 1024 codex_758 :=
  And.intro (okx_1018 Hy) (okzx 2042)
theorem anx_759 (Hy : Hyx tys cA base adS Ex) : xall (fun b t => xOK l Dg clx tys cA flx ftx base adS GWx xyx xcx xnx xrx Ex codex bmx bpx b t) 2 506 512 codex_759 :=
  And.intro (anx_757 Hy) (anx_758 Hy)
theorem anx_760 (Hy : Hyx tys cA base adS Ex) : xall (fun b t => xOK l Dg clx tys cA flx ftx base adS GWx xyx xcx xnx xrx Ex codex bmx bpx b t) 3 250 256 codex_760 :=
  And.intro (anx_756 Hy) (anx_759 Hy)
theorem anx_761 (Hy : Hyx tys cA base adS Ex) : xall (fun b t => xOK l Dg clx tys cA flx ftx base adS GWx xyx xcx xnx xrx Ex codex bmx bpx b t) 4 122 128 codex_761 :=
  And.intro (anx_753 Hy) (anx_760 Hy)
theorem anx_762 (Hy : Hyx tys cA base adS Ex) : xall (fun b t => xOK l Dg clx tys cA flx ftx base adS GWx xyx xcx xnx xrx Ex codex bmx bpx b t) 5 58 64 codex_762 :=
  And.intro (anx_746 Hy) (anx_761 Hy)
theorem anx_763 (Hy : Hyx tys cA base adS Ex) : xall (fun b t => xOK l Dg clx tys cA flx ftx base adS GWx xyx xcx xnx xrx Ex codex bmx bpx b t) 6 26 32 codex_763 :=
  And.intro (anx_731 Hy) (anx_762 Hy)
theorem anx_764 (Hy : Hyx tys cA base adS Ex) : xall (fun b t => xOK l Dg clx tys cA flx ftx base adS GWx xyx xcx xnx xrx Ex codex bmx bpx b t) 7 10 16 codex_764 :=
  And.intro (anx_700 Hy) (anx_763 Hy)
theorem anx_765 (Hy : Hyx tys cA base adS Ex) : xall (fun b t => xOK l Dg clx tys cA flx ftx base adS GWx xyx xcx xnx xrx Ex codex bmx bpx b t) 8 2 8 codex_765 :=
  And.intro (anx_637 Hy) (anx_764 Hy)
theorem anx_766 (Hy : Hyx tys cA base adS Ex) : xall (fun b t => xOK l Dg clx tys cA flx ftx base adS GWx xyx xcx xnx xrx Ex codex bmx bpx b t) 1 6 1024 codex_766 :=
  And.intro (okx_6 Hy) (okx_1030 Hy)
theorem anx_767 (Hy : Hyx tys cA base adS Ex) : xall (fun b t => xOK l Dg clx tys cA flx ftx base adS GWx xyx xcx xnx xrx Ex codex bmx bpx b t) 1 518 1024 codex_767 :=
  And.intro (okx_518 Hy) (okzx 1542)
theorem anx_768 (Hy : Hyx tys cA base adS Ex) : xall (fun b t => xOK l Dg clx tys cA flx ftx base adS GWx xyx xcx xnx xrx Ex codex bmx bpx b t) 2 6 512 codex_768 :=
  And.intro (anx_766 Hy) (anx_767 Hy)
theorem anx_769 (Hy : Hyx tys cA base adS Ex) : xall (fun b t => xOK l Dg clx tys cA flx ftx base adS GWx xyx xcx xnx xrx Ex codex bmx bpx b t) 1 262 1024 codex_769 :=
  And.intro (okx_262 Hy) (okzx 1286)
theorem anx_770 (Hy : Hyx tys cA base adS Ex) : xall (fun b t => xOK l Dg clx tys cA flx ftx base adS GWx xyx xcx xnx xrx Ex codex bmx bpx b t) 1 774 1024 codex_770 :=
  And.intro (okx_774 Hy) (okzx 1798)
theorem anx_771 (Hy : Hyx tys cA base adS Ex) : xall (fun b t => xOK l Dg clx tys cA flx ftx base adS GWx xyx xcx xnx xrx Ex codex bmx bpx b t) 2 262 512 codex_771 :=
  And.intro (anx_769 Hy) (anx_770 Hy)
theorem anx_772 (Hy : Hyx tys cA base adS Ex) : xall (fun b t => xOK l Dg clx tys cA flx ftx base adS GWx xyx xcx xnx xrx Ex codex bmx bpx b t) 3 6 256 codex_772 :=
  And.intro (anx_768 Hy) (anx_771 Hy)
theorem anx_773 (Hy : Hyx tys cA base adS Ex) : xall (fun b t => xOK l Dg clx tys cA flx ftx base adS GWx xyx xcx xnx xrx Ex codex bmx bpx b t) 1 134 1024 codex_773 :=
  And.intro (okx_134 Hy) (okx_1158 Hy)
theorem anx_774 (Hy : Hyx tys cA base adS Ex) : xall (fun b t => xOK l Dg clx tys cA flx ftx base adS GWx xyx xcx xnx xrx Ex codex bmx bpx b t) 1 646 1024 codex_774 :=
  And.intro (okx_646 Hy) (okzx 1670)
theorem anx_775 (Hy : Hyx tys cA base adS Ex) : xall (fun b t => xOK l Dg clx tys cA flx ftx base adS GWx xyx xcx xnx xrx Ex codex bmx bpx b t) 2 134 512 codex_775 :=
  And.intro (anx_773 Hy) (anx_774 Hy)
theorem anx_776 (Hy : Hyx tys cA base adS Ex) : xall (fun b t => xOK l Dg clx tys cA flx ftx base adS GWx xyx xcx xnx xrx Ex codex bmx bpx b t) 1 390 1024 codex_776 :=
  And.intro (okx_390 Hy) (okzx 1414)
theorem anx_777 (Hy : Hyx tys cA base adS Ex) : xall (fun b t => xOK l Dg clx tys cA flx ftx base adS GWx xyx xcx xnx xrx Ex codex bmx bpx b t) 1 902 1024 codex_777 :=
  And.intro (okx_902 Hy) (okzx 1926)
theorem anx_778 (Hy : Hyx tys cA base adS Ex) : xall (fun b t => xOK l Dg clx tys cA flx ftx base adS GWx xyx xcx xnx xrx Ex codex bmx bpx b t) 2 390 512 codex_778 :=
  And.intro (anx_776 Hy) (anx_777 Hy)
theorem anx_779 (Hy : Hyx tys cA base adS Ex) : xall (fun b t => xOK l Dg clx tys cA flx ftx base adS GWx xyx xcx xnx xrx Ex codex bmx bpx b t) 3 134 256 codex_779 :=
  And.intro (anx_775 Hy) (anx_778 Hy)
theorem anx_780 (Hy : Hyx tys cA base adS Ex) : xall (fun b t => xOK l Dg clx tys cA flx ftx base adS GWx xyx xcx xnx xrx Ex codex bmx bpx b t) 4 6 128 codex_780 :=
  And.intro (anx_772 Hy) (anx_779 Hy)
theorem anx_781 (Hy : Hyx tys cA base adS Ex) : xall (fun b t => xOK l Dg clx tys cA flx ftx base adS GWx xyx xcx xnx xrx Ex codex bmx bpx b t) 1 70 1024 codex_781 :=
  And.intro (okx_70 Hy) (okx_1094 Hy)
theorem anx_782 (Hy : Hyx tys cA base adS Ex) : xall (fun b t => xOK l Dg clx tys cA flx ftx base adS GWx xyx xcx xnx xrx Ex codex bmx bpx b t) 1 582 1024 codex_782 :=
  And.intro (okx_582 Hy) (okzx 1606)
theorem anx_783 (Hy : Hyx tys cA base adS Ex) : xall (fun b t => xOK l Dg clx tys cA flx ftx base adS GWx xyx xcx xnx xrx Ex codex bmx bpx b t) 2 70 512 codex_783 :=
  And.intro (anx_781 Hy) (anx_782 Hy)
theorem anx_784 (Hy : Hyx tys cA base adS Ex) : xall (fun b t => xOK l Dg clx tys cA flx ftx base adS GWx xyx xcx xnx xrx Ex codex bmx bpx b t) 1 326 1024 codex_784 :=
  And.intro (okx_326 Hy) (okzx 1350)
theorem anx_785 (Hy : Hyx tys cA base adS Ex) : xall (fun b t => xOK l Dg clx tys cA flx ftx base adS GWx xyx xcx xnx xrx Ex codex bmx bpx b t) 1 838 1024 codex_785 :=
  And.intro (okx_838 Hy) (okzx 1862)
theorem anx_786 (Hy : Hyx tys cA base adS Ex) : xall (fun b t => xOK l Dg clx tys cA flx ftx base adS GWx xyx xcx xnx xrx Ex codex bmx bpx b t) 2 326 512 codex_786 :=
  And.intro (anx_784 Hy) (anx_785 Hy)
theorem anx_787 (Hy : Hyx tys cA base adS Ex) : xall (fun b t => xOK l Dg clx tys cA flx ftx base adS GWx xyx xcx xnx xrx Ex codex bmx bpx b t) 3 70 256 codex_787 :=
  And.intro (anx_783 Hy) (anx_786 Hy)
theorem anx_788 (Hy : Hyx tys cA base adS Ex) : xall (fun b t => xOK l Dg clx tys cA flx ftx base adS GWx xyx xcx xnx xrx Ex codex bmx bpx b t) 1 198 1024 codex_788 :=
  And.intro (okx_198 Hy) (okzx 1222)
theorem anx_789 (Hy : Hyx tys cA base adS Ex) : xall (fun b t => xOK l Dg clx tys cA flx ftx base adS GWx xyx xcx xnx xrx Ex codex bmx bpx b t) 1 710 1024 codex_789 :=
  And.intro (okx_710 Hy) (okzx 1734)
theorem anx_790 (Hy : Hyx tys cA base adS Ex) : xall (fun b t => xOK l Dg clx tys cA flx ftx base adS GWx xyx xcx xnx xrx Ex codex bmx bpx b t) 2 198 512 codex_790 :=
  And.intro (anx_788 Hy) (anx_789 Hy)
theorem anx_791 (Hy : Hyx tys cA base adS Ex) : xall (fun b t => xOK l Dg clx tys cA flx ftx base adS GWx xyx xcx xnx xrx Ex codex bmx bpx b t) 1 454 1024 codex_791 :=
  And.intro (okx_454 Hy) (okzx 1478)
theorem anx_792 (Hy : Hyx tys cA base adS Ex) : xall (fun b t => xOK l Dg clx tys cA flx ftx base adS GWx xyx xcx xnx xrx Ex codex bmx bpx b t) 1 966 1024 codex_792 :=
  And.intro (okx_966 Hy) (okzx 1990)
theorem anx_793 (Hy : Hyx tys cA base adS Ex) : xall (fun b t => xOK l Dg clx tys cA flx ftx base adS GWx xyx xcx xnx xrx Ex codex bmx bpx b t) 2 454 512 codex_793 :=
  And.intro (anx_791 Hy) (anx_792 Hy)
theorem anx_794 (Hy : Hyx tys cA base adS Ex) : xall (fun b t => xOK l Dg clx tys cA flx ftx base adS GWx xyx xcx xnx xrx Ex codex bmx bpx b t) 3 198 256 codex_794 :=
  And.intro (anx_790 Hy) (anx_793 Hy)
theorem anx_795 (Hy : Hyx tys cA base adS Ex) : xall (fun b t => xOK l Dg clx tys cA flx ftx base adS GWx xyx xcx xnx xrx Ex codex bmx bpx b t) 4 70 128 codex_795 :=
  And.intro (anx_787 Hy) (anx_794 Hy)
theorem anx_796 (Hy : Hyx tys cA base adS Ex) : xall (fun b t => xOK l Dg clx tys cA flx ftx base adS GWx xyx xcx xnx xrx Ex codex bmx bpx b t) 5 6 64 codex_796 :=
  And.intro (anx_780 Hy) (anx_795 Hy)
theorem anx_797 (Hy : Hyx tys cA base adS Ex) : xall (fun b t => xOK l Dg clx tys cA flx ftx base adS GWx xyx xcx xnx xrx Ex codex bmx bpx b t) 1 38 1024 codex_797 :=
  And.intro (okx_38 Hy) (okx_1062 Hy)
theorem anx_798 (Hy : Hyx tys cA base adS Ex) : xall (fun b t => xOK l Dg clx tys cA flx ftx base adS GWx xyx xcx xnx xrx Ex codex bmx bpx b t) 1 550 1024 codex_798 :=
  And.intro (okx_550 Hy) (okzx 1574)
theorem anx_799 (Hy : Hyx tys cA base adS Ex) : xall (fun b t => xOK l Dg clx tys cA flx ftx base adS GWx xyx xcx xnx xrx Ex codex bmx bpx b t) 2 38 512 codex_799 :=
  And.intro (anx_797 Hy) (anx_798 Hy)
theorem anx_800 (Hy : Hyx tys cA base adS Ex) : xall (fun b t => xOK l Dg clx tys cA flx ftx base adS GWx xyx xcx xnx xrx Ex codex bmx bpx b t) 1 294 1024 codex_800 :=
  And.intro (okx_294 Hy) (okzx 1318)
theorem anx_801 (Hy : Hyx tys cA base adS Ex) : xall (fun b t => xOK l Dg clx tys cA flx ftx base adS GWx xyx xcx xnx xrx Ex codex bmx bpx b t) 1 806 1024 codex_801 :=
  And.intro (okx_806 Hy) (okzx 1830)
theorem anx_802 (Hy : Hyx tys cA base adS Ex) : xall (fun b t => xOK l Dg clx tys cA flx ftx base adS GWx xyx xcx xnx xrx Ex codex bmx bpx b t) 2 294 512 codex_802 :=
  And.intro (anx_800 Hy) (anx_801 Hy)
theorem anx_803 (Hy : Hyx tys cA base adS Ex) : xall (fun b t => xOK l Dg clx tys cA flx ftx base adS GWx xyx xcx xnx xrx Ex codex bmx bpx b t) 3 38 256 codex_803 :=
  And.intro (anx_799 Hy) (anx_802 Hy)
theorem anx_804 (Hy : Hyx tys cA base adS Ex) : xall (fun b t => xOK l Dg clx tys cA flx ftx base adS GWx xyx xcx xnx xrx Ex codex bmx bpx b t) 1 166 1024 codex_804 :=
  And.intro (okx_166 Hy) (okx_1190 Hy)
theorem anx_805 (Hy : Hyx tys cA base adS Ex) : xall (fun b t => xOK l Dg clx tys cA flx ftx base adS GWx xyx xcx xnx xrx Ex codex bmx bpx b t) 1 678 1024 codex_805 :=
  And.intro (okx_678 Hy) (okzx 1702)
theorem anx_806 (Hy : Hyx tys cA base adS Ex) : xall (fun b t => xOK l Dg clx tys cA flx ftx base adS GWx xyx xcx xnx xrx Ex codex bmx bpx b t) 2 166 512 codex_806 :=
  And.intro (anx_804 Hy) (anx_805 Hy)
theorem anx_807 (Hy : Hyx tys cA base adS Ex) : xall (fun b t => xOK l Dg clx tys cA flx ftx base adS GWx xyx xcx xnx xrx Ex codex bmx bpx b t) 1 422 1024 codex_807 :=
  And.intro (okx_422 Hy) (okzx 1446)
theorem anx_808 (Hy : Hyx tys cA base adS Ex) : xall (fun b t => xOK l Dg clx tys cA flx ftx base adS GWx xyx xcx xnx xrx Ex codex bmx bpx b t) 1 934 1024 codex_808 :=
  And.intro (okx_934 Hy) (okzx 1958)
theorem anx_809 (Hy : Hyx tys cA base adS Ex) : xall (fun b t => xOK l Dg clx tys cA flx ftx base adS GWx xyx xcx xnx xrx Ex codex bmx bpx b t) 2 422 512 codex_809 :=
  And.intro (anx_807 Hy) (anx_808 Hy)
theorem anx_810 (Hy : Hyx tys cA base adS Ex) : xall (fun b t => xOK l Dg clx tys cA flx ftx base adS GWx xyx xcx xnx xrx Ex codex bmx bpx b t) 3 166 256 codex_810 :=
  And.intro (anx_806 Hy) (anx_809 Hy)
theorem anx_811 (Hy : Hyx tys cA base adS Ex) : xall (fun b t => xOK l Dg clx tys cA flx ftx base adS GWx xyx xcx xnx xrx Ex codex bmx bpx b t) 4 38 128 codex_811 :=
  And.intro (anx_803 Hy) (anx_810 Hy)
theorem anx_812 (Hy : Hyx tys cA base adS Ex) : xall (fun b t => xOK l Dg clx tys cA flx ftx base adS GWx xyx xcx xnx xrx Ex codex bmx bpx b t) 1 102 1024 codex_812 :=
  And.intro (okx_102 Hy) (okx_1126 Hy)
theorem anx_813 (Hy : Hyx tys cA base adS Ex) : xall (fun b t => xOK l Dg clx tys cA flx ftx base adS GWx xyx xcx xnx xrx Ex codex bmx bpx b t) 1 614 1024 codex_813 :=
  And.intro (okx_614 Hy) (okzx 1638)
theorem anx_814 (Hy : Hyx tys cA base adS Ex) : xall (fun b t => xOK l Dg clx tys cA flx ftx base adS GWx xyx xcx xnx xrx Ex codex bmx bpx b t) 2 102 512 codex_814 :=
  And.intro (anx_812 Hy) (anx_813 Hy)
theorem anx_815 (Hy : Hyx tys cA base adS Ex) : xall (fun b t => xOK l Dg clx tys cA flx ftx base adS GWx xyx xcx xnx xrx Ex codex bmx bpx b t) 1 358 1024 codex_815 :=
  And.intro (okx_358 Hy) (okzx 1382)
theorem anx_816 (Hy : Hyx tys cA base adS Ex) : xall (fun b t => xOK l Dg clx tys cA flx ftx base adS GWx xyx xcx xnx xrx Ex codex bmx bpx b t) 1 870 1024 codex_816 :=
  And.intro (okx_870 Hy) (okzx 1894)
theorem anx_817 (Hy : Hyx tys cA base adS Ex) : xall (fun b t => xOK l Dg clx tys cA flx ftx base adS GWx xyx xcx xnx xrx Ex codex bmx bpx b t) 2 358 512 codex_817 :=
  And.intro (anx_815 Hy) (anx_816 Hy)
theorem anx_818 (Hy : Hyx tys cA base adS Ex) : xall (fun b t => xOK l Dg clx tys cA flx ftx base adS GWx xyx xcx xnx xrx Ex codex bmx bpx b t) 3 102 256 codex_818 :=
  And.intro (anx_814 Hy) (anx_817 Hy)
theorem anx_819 (Hy : Hyx tys cA base adS Ex) : xall (fun b t => xOK l Dg clx tys cA flx ftx base adS GWx xyx xcx xnx xrx Ex codex bmx bpx b t) 1 230 1024 codex_819 :=
  And.intro (okx_230 Hy) (okzx 1254)
theorem anx_820 (Hy : Hyx tys cA base adS Ex) : xall (fun b t => xOK l Dg clx tys cA flx ftx base adS GWx xyx xcx xnx xrx Ex codex bmx bpx b t) 1 742 1024 codex_820 :=
  And.intro (okx_742 Hy) (okzx 1766)
theorem anx_821 (Hy : Hyx tys cA base adS Ex) : xall (fun b t => xOK l Dg clx tys cA flx ftx base adS GWx xyx xcx xnx xrx Ex codex bmx bpx b t) 2 230 512 codex_821 :=
  And.intro (anx_819 Hy) (anx_820 Hy)
theorem anx_822 (Hy : Hyx tys cA base adS Ex) : xall (fun b t => xOK l Dg clx tys cA flx ftx base adS GWx xyx xcx xnx xrx Ex codex bmx bpx b t) 1 486 1024 codex_822 :=
  And.intro (okx_486 Hy) (okzx 1510)
theorem anx_823 (Hy : Hyx tys cA base adS Ex) : xall (fun b t => xOK l Dg clx tys cA flx ftx base adS GWx xyx xcx xnx xrx Ex codex bmx bpx b t) 1 998 1024 codex_823 :=
  And.intro (okx_998 Hy) (okzx 2022)
theorem anx_824 (Hy : Hyx tys cA base adS Ex) : xall (fun b t => xOK l Dg clx tys cA flx ftx base adS GWx xyx xcx xnx xrx Ex codex bmx bpx b t) 2 486 512 codex_824 :=
  And.intro (anx_822 Hy) (anx_823 Hy)
theorem anx_825 (Hy : Hyx tys cA base adS Ex) : xall (fun b t => xOK l Dg clx tys cA flx ftx base adS GWx xyx xcx xnx xrx Ex codex bmx bpx b t) 3 230 256 codex_825 :=
  And.intro (anx_821 Hy) (anx_824 Hy)
theorem anx_826 (Hy : Hyx tys cA base adS Ex) : xall (fun b t => xOK l Dg clx tys cA flx ftx base adS GWx xyx xcx xnx xrx Ex codex bmx bpx b t) 4 102 128 codex_826 :=
  And.intro (anx_818 Hy) (anx_825 Hy)
theorem anx_827 (Hy : Hyx tys cA base adS Ex) : xall (fun b t => xOK l Dg clx tys cA flx ftx base adS GWx xyx xcx xnx xrx Ex codex bmx bpx b t) 5 38 64 codex_827 :=
  And.intro (anx_811 Hy) (anx_826 Hy)
theorem anx_828 (Hy : Hyx tys cA base adS Ex) : xall (fun b t => xOK l Dg clx tys cA flx ftx base adS GWx xyx xcx xnx xrx Ex codex bmx bpx b t) 6 6 32 codex_828 :=
  And.intro (anx_796 Hy) (anx_827 Hy)
theorem anx_829 (Hy : Hyx tys cA base adS Ex) : xall (fun b t => xOK l Dg clx tys cA flx ftx base adS GWx xyx xcx xnx xrx Ex codex bmx bpx b t) 1 22 1024 codex_829 :=
  And.intro (okx_22 Hy) (okx_1046 Hy)
theorem anx_830 (Hy : Hyx tys cA base adS Ex) : xall (fun b t => xOK l Dg clx tys cA flx ftx base adS GWx xyx xcx xnx xrx Ex codex bmx bpx b t) 1 534 1024 codex_830 :=
  And.intro (okx_534 Hy) (okzx 1558)
theorem anx_831 (Hy : Hyx tys cA base adS Ex) : xall (fun b t => xOK l Dg clx tys cA flx ftx base adS GWx xyx xcx xnx xrx Ex codex bmx bpx b t) 2 22 512 codex_831 :=
  And.intro (anx_829 Hy) (anx_830 Hy)
theorem anx_832 (Hy : Hyx tys cA base adS Ex) : xall (fun b t => xOK l Dg clx tys cA flx ftx base adS GWx xyx xcx xnx xrx Ex codex bmx bpx b t) 1 278 1024 codex_832 :=
  And.intro (okx_278 Hy) (okzx 1302)
theorem anx_833 (Hy : Hyx tys cA base adS Ex) : xall (fun b t => xOK l Dg clx tys cA flx ftx base adS GWx xyx xcx xnx xrx Ex codex bmx bpx b t) 1 790 1024 codex_833 :=
  And.intro (okx_790 Hy) (okzx 1814)
theorem anx_834 (Hy : Hyx tys cA base adS Ex) : xall (fun b t => xOK l Dg clx tys cA flx ftx base adS GWx xyx xcx xnx xrx Ex codex bmx bpx b t) 2 278 512 codex_834 :=
  And.intro (anx_832 Hy) (anx_833 Hy)
theorem anx_835 (Hy : Hyx tys cA base adS Ex) : xall (fun b t => xOK l Dg clx tys cA flx ftx base adS GWx xyx xcx xnx xrx Ex codex bmx bpx b t) 3 22 256 codex_835 :=
  And.intro (anx_831 Hy) (anx_834 Hy)
theorem anx_836 (Hy : Hyx tys cA base adS Ex) : xall (fun b t => xOK l Dg clx tys cA flx ftx base adS GWx xyx xcx xnx xrx Ex codex bmx bpx b t) 1 150 1024 codex_836 :=
  And.intro (okx_150 Hy) (okx_1174 Hy)
theorem anx_837 (Hy : Hyx tys cA base adS Ex) : xall (fun b t => xOK l Dg clx tys cA flx ftx base adS GWx xyx xcx xnx xrx Ex codex bmx bpx b t) 1 662 1024 codex_837 :=
  And.intro (okx_662 Hy) (okzx 1686)
theorem anx_838 (Hy : Hyx tys cA base adS Ex) : xall (fun b t => xOK l Dg clx tys cA flx ftx base adS GWx xyx xcx xnx xrx Ex codex bmx bpx b t) 2 150 512 codex_838 :=
  And.intro (anx_836 Hy) (anx_837 Hy)
theorem anx_839 (Hy : Hyx tys cA base adS Ex) : xall (fun b t => xOK l Dg clx tys cA flx ftx base adS GWx xyx xcx xnx xrx Ex codex bmx bpx b t) 1 406 1024 codex_839 :=
  And.intro (okx_406 Hy) (okzx 1430)
theorem anx_840 (Hy : Hyx tys cA base adS Ex) : xall (fun b t => xOK l Dg clx tys cA flx ftx base adS GWx xyx xcx xnx xrx Ex codex bmx bpx b t) 1 918 1024 codex_840 :=
  And.intro (okx_918 Hy) (okzx 1942)
theorem anx_841 (Hy : Hyx tys cA base adS Ex) : xall (fun b t => xOK l Dg clx tys cA flx ftx base adS GWx xyx xcx xnx xrx Ex codex bmx bpx b t) 2 406 512 codex_841 :=
  And.intro (anx_839 Hy) (anx_840 Hy)
theorem anx_842 (Hy : Hyx tys cA base adS Ex) : xall (fun b t => xOK l Dg clx tys cA flx ftx base adS GWx xyx xcx xnx xrx Ex codex bmx bpx b t) 3 150 256 codex_842 :=
  And.intro (anx_838 Hy) (anx_841 Hy)
theorem anx_843 (Hy : Hyx tys cA base adS Ex) : xall (fun b t => xOK l Dg clx tys cA flx ftx base adS GWx xyx xcx xnx xrx Ex codex bmx bpx b t) 4 22 128 codex_843 :=
  And.intro (anx_835 Hy) (anx_842 Hy)
theorem anx_844 (Hy : Hyx tys cA base adS Ex) : xall (fun b t => xOK l Dg clx tys cA flx ftx base adS GWx xyx xcx xnx xrx Ex codex bmx bpx b t) 1 86 1024 codex_844 :=
  And.intro (okx_86 Hy) (okx_1110 Hy)
theorem anx_845 (Hy : Hyx tys cA base adS Ex) : xall (fun b t => xOK l Dg clx tys cA flx ftx base adS GWx xyx xcx xnx xrx Ex codex bmx bpx b t) 1 598 1024 codex_845 :=
  And.intro (okx_598 Hy) (okzx 1622)
theorem anx_846 (Hy : Hyx tys cA base adS Ex) : xall (fun b t => xOK l Dg clx tys cA flx ftx base adS GWx xyx xcx xnx xrx Ex codex bmx bpx b t) 2 86 512 codex_846 :=
  And.intro (anx_844 Hy) (anx_845 Hy)
theorem anx_847 (Hy : Hyx tys cA base adS Ex) : xall (fun b t => xOK l Dg clx tys cA flx ftx base adS GWx xyx xcx xnx xrx Ex codex bmx bpx b t) 1 342 1024 codex_847 :=
  And.intro (okx_342 Hy) (okzx 1366)
theorem anx_848 (Hy : Hyx tys cA base adS Ex) : xall (fun b t => xOK l Dg clx tys cA flx ftx base adS GWx xyx xcx xnx xrx Ex codex bmx bpx b t) 1 854 1024 codex_848 :=
  And.intro (okx_854 Hy) (okzx 1878)
theorem anx_849 (Hy : Hyx tys cA base adS Ex) : xall (fun b t => xOK l Dg clx tys cA flx ftx base adS GWx xyx xcx xnx xrx Ex codex bmx bpx b t) 2 342 512 codex_849 :=
  And.intro (anx_847 Hy) (anx_848 Hy)
theorem anx_850 (Hy : Hyx tys cA base adS Ex) : xall (fun b t => xOK l Dg clx tys cA flx ftx base adS GWx xyx xcx xnx xrx Ex codex bmx bpx b t) 3 86 256 codex_850 :=
  And.intro (anx_846 Hy) (anx_849 Hy)
theorem anx_851 (Hy : Hyx tys cA base adS Ex) : xall (fun b t => xOK l Dg clx tys cA flx ftx base adS GWx xyx xcx xnx xrx Ex codex bmx bpx b t) 1 214 1024 codex_851 :=
  And.intro (okx_214 Hy) (okzx 1238)
theorem anx_852 (Hy : Hyx tys cA base adS Ex) : xall (fun b t => xOK l Dg clx tys cA flx ftx base adS GWx xyx xcx xnx xrx Ex codex bmx bpx b t) 1 726 1024 codex_852 :=
  And.intro (okx_726 Hy) (okzx 1750)
theorem anx_853 (Hy : Hyx tys cA base adS Ex) : xall (fun b t => xOK l Dg clx tys cA flx ftx base adS GWx xyx xcx xnx xrx Ex codex bmx bpx b t) 2 214 512 codex_853 :=
  And.intro (anx_851 Hy) (anx_852 Hy)
theorem anx_854 (Hy : Hyx tys cA base adS Ex) : xall (fun b t => xOK l Dg clx tys cA flx ftx base adS GWx xyx xcx xnx xrx Ex codex bmx bpx b t) 1 470 1024 codex_854 :=
  And.intro (okx_470 Hy) (okzx 1494)
theorem anx_855 (Hy : Hyx tys cA base adS Ex) : xall (fun b t => xOK l Dg clx tys cA flx ftx base adS GWx xyx xcx xnx xrx Ex codex bmx bpx b t) 1 982 1024 codex_855 :=
  And.intro (okx_982 Hy) (okzx 2006)
theorem anx_856 (Hy : Hyx tys cA base adS Ex) : xall (fun b t => xOK l Dg clx tys cA flx ftx base adS GWx xyx xcx xnx xrx Ex codex bmx bpx b t) 2 470 512 codex_856 :=
  And.intro (anx_854 Hy) (anx_855 Hy)
theorem anx_857 (Hy : Hyx tys cA base adS Ex) : xall (fun b t => xOK l Dg clx tys cA flx ftx base adS GWx xyx xcx xnx xrx Ex codex bmx bpx b t) 3 214 256 codex_857 :=
  And.intro (anx_853 Hy) (anx_856 Hy)
theorem anx_858 (Hy : Hyx tys cA base adS Ex) : xall (fun b t => xOK l Dg clx tys cA flx ftx base adS GWx xyx xcx xnx xrx Ex codex bmx bpx b t) 4 86 128 codex_858 :=
  And.intro (anx_850 Hy) (anx_857 Hy)
theorem anx_859 (Hy : Hyx tys cA base adS Ex) : xall (fun b t => xOK l Dg clx tys cA flx ftx base adS GWx xyx xcx xnx xrx Ex codex bmx bpx b t) 5 22 64 codex_859 :=
  And.intro (anx_843 Hy) (anx_858 Hy)
theorem anx_860 (Hy : Hyx tys cA base adS Ex) : xall (fun b t => xOK l Dg clx tys cA flx ftx base adS GWx xyx xcx xnx xrx Ex codex bmx bpx b t) 1 54 1024 codex_860 :=
  And.intro (okx_54 Hy) (okx_1078 Hy)
theorem anx_861 (Hy : Hyx tys cA base adS Ex) : xall (fun b t => xOK l Dg clx tys cA flx ftx base adS GWx xyx xcx xnx xrx Ex codex bmx bpx b t) 1 566 1024 codex_861 :=
  And.intro (okx_566 Hy) (okzx 1590)
theorem anx_862 (Hy : Hyx tys cA base adS Ex) : xall (fun b t => xOK l Dg clx tys cA flx ftx base adS GWx xyx xcx xnx xrx Ex codex bmx bpx b t) 2 54 512 codex_862 :=
  And.intro (anx_860 Hy) (anx_861 Hy)
theorem anx_863 (Hy : Hyx tys cA base adS Ex) : xall (fun b t => xOK l Dg clx tys cA flx ftx base adS GWx xyx xcx xnx xrx Ex codex bmx bpx b t) 1 310 1024 codex_863 :=
  And.intro (okx_310 Hy) (okzx 1334)
theorem anx_864 (Hy : Hyx tys cA base adS Ex) : xall (fun b t => xOK l Dg clx tys cA flx ftx base adS GWx xyx xcx xnx xrx Ex codex bmx bpx b t) 1 822 1024 codex_864 :=
  And.intro (okx_822 Hy) (okzx 1846)
theorem anx_865 (Hy : Hyx tys cA base adS Ex) : xall (fun b t => xOK l Dg clx tys cA flx ftx base adS GWx xyx xcx xnx xrx Ex codex bmx bpx b t) 2 310 512 codex_865 :=
  And.intro (anx_863 Hy) (anx_864 Hy)
theorem anx_866 (Hy : Hyx tys cA base adS Ex) : xall (fun b t => xOK l Dg clx tys cA flx ftx base adS GWx xyx xcx xnx xrx Ex codex bmx bpx b t) 3 54 256 codex_866 :=
  And.intro (anx_862 Hy) (anx_865 Hy)
theorem anx_867 (Hy : Hyx tys cA base adS Ex) : xall (fun b t => xOK l Dg clx tys cA flx ftx base adS GWx xyx xcx xnx xrx Ex codex bmx bpx b t) 1 182 1024 codex_867 :=
  And.intro (okx_182 Hy) (okzx 1206)
theorem anx_868 (Hy : Hyx tys cA base adS Ex) : xall (fun b t => xOK l Dg clx tys cA flx ftx base adS GWx xyx xcx xnx xrx Ex codex bmx bpx b t) 1 694 1024 codex_868 :=
  And.intro (okx_694 Hy) (okzx 1718)
theorem anx_869 (Hy : Hyx tys cA base adS Ex) : xall (fun b t => xOK l Dg clx tys cA flx ftx base adS GWx xyx xcx xnx xrx Ex codex bmx bpx b t) 2 182 512 codex_869 :=
  And.intro (anx_867 Hy) (anx_868 Hy)
theorem anx_870 (Hy : Hyx tys cA base adS Ex) : xall (fun b t => xOK l Dg clx tys cA flx ftx base adS GWx xyx xcx xnx xrx Ex codex bmx bpx b t) 1 438 1024 codex_870 :=
  And.intro (okx_438 Hy) (okzx 1462)
theorem anx_871 (Hy : Hyx tys cA base adS Ex) : xall (fun b t => xOK l Dg clx tys cA flx ftx base adS GWx xyx xcx xnx xrx Ex codex bmx bpx b t) 1 950 1024 codex_871 :=
  And.intro (okx_950 Hy) (okzx 1974)
theorem anx_872 (Hy : Hyx tys cA base adS Ex) : xall (fun b t => xOK l Dg clx tys cA flx ftx base adS GWx xyx xcx xnx xrx Ex codex bmx bpx b t) 2 438 512 codex_872 :=
  And.intro (anx_870 Hy) (anx_871 Hy)
theorem anx_873 (Hy : Hyx tys cA base adS Ex) : xall (fun b t => xOK l Dg clx tys cA flx ftx base adS GWx xyx xcx xnx xrx Ex codex bmx bpx b t) 3 182 256 codex_873 :=
  And.intro (anx_869 Hy) (anx_872 Hy)
theorem anx_874 (Hy : Hyx tys cA base adS Ex) : xall (fun b t => xOK l Dg clx tys cA flx ftx base adS GWx xyx xcx xnx xrx Ex codex bmx bpx b t) 4 54 128 codex_874 :=
  And.intro (anx_866 Hy) (anx_873 Hy)
theorem anx_875 (Hy : Hyx tys cA base adS Ex) : xall (fun b t => xOK l Dg clx tys cA flx ftx base adS GWx xyx xcx xnx xrx Ex codex bmx bpx b t) 1 118 1024 codex_875 :=
  And.intro (okx_118 Hy) (okx_1142 Hy)
theorem anx_876 (Hy : Hyx tys cA base adS Ex) : xall (fun b t => xOK l Dg clx tys cA flx ftx base adS GWx xyx xcx xnx xrx Ex codex bmx bpx b t) 1 630 1024 codex_876 :=
  And.intro (okx_630 Hy) (okzx 1654)
theorem anx_877 (Hy : Hyx tys cA base adS Ex) : xall (fun b t => xOK l Dg clx tys cA flx ftx base adS GWx xyx xcx xnx xrx Ex codex bmx bpx b t) 2 118 512 codex_877 :=
  And.intro (anx_875 Hy) (anx_876 Hy)
theorem anx_878 (Hy : Hyx tys cA base adS Ex) : xall (fun b t => xOK l Dg clx tys cA flx ftx base adS GWx xyx xcx xnx xrx Ex codex bmx bpx b t) 1 374 1024 codex_878 :=
  And.intro (okx_374 Hy) (okzx 1398)
theorem anx_879 (Hy : Hyx tys cA base adS Ex) : xall (fun b t => xOK l Dg clx tys cA flx ftx base adS GWx xyx xcx xnx xrx Ex codex bmx bpx b t) 1 886 1024 codex_879 :=
  And.intro (okx_886 Hy) (okzx 1910)
theorem anx_880 (Hy : Hyx tys cA base adS Ex) : xall (fun b t => xOK l Dg clx tys cA flx ftx base adS GWx xyx xcx xnx xrx Ex codex bmx bpx b t) 2 374 512 codex_880 :=
  And.intro (anx_878 Hy) (anx_879 Hy)
theorem anx_881 (Hy : Hyx tys cA base adS Ex) : xall (fun b t => xOK l Dg clx tys cA flx ftx base adS GWx xyx xcx xnx xrx Ex codex bmx bpx b t) 3 118 256 codex_881 :=
  And.intro (anx_877 Hy) (anx_880 Hy)
theorem anx_882 (Hy : Hyx tys cA base adS Ex) : xall (fun b t => xOK l Dg clx tys cA flx ftx base adS GWx xyx xcx xnx xrx Ex codex bmx bpx b t) 1 246 1024 codex_882 :=
  And.intro (okx_246 Hy) (okzx 1270)
theorem anx_883 (Hy : Hyx tys cA base adS Ex) : xall (fun b t => xOK l Dg clx tys cA flx ftx base adS GWx xyx xcx xnx xrx Ex codex bmx bpx b t) 1 758 1024 codex_883 :=
  And.intro (okx_758 Hy) (okzx 1782)
theorem anx_884 (Hy : Hyx tys cA base adS Ex) : xall (fun b t => xOK l Dg clx tys cA flx ftx base adS GWx xyx xcx xnx xrx Ex codex bmx bpx b t) 2 246 512 codex_884 :=
  And.intro (anx_882 Hy) (anx_883 Hy)
theorem anx_885 (Hy : Hyx tys cA base adS Ex) : xall (fun b t => xOK l Dg clx tys cA flx ftx base adS GWx xyx xcx xnx xrx Ex codex bmx bpx b t) 1 502 1024 codex_885 :=
  And.intro (okx_502 Hy) (okzx 1526)
theorem anx_886 (Hy : Hyx tys cA base adS Ex) : xall (fun b t => xOK l Dg clx tys cA flx ftx base adS GWx xyx xcx xnx xrx Ex codex bmx bpx b t) 1 1014 1024 codex_886 :=
  And.intro (okx_1014 Hy) (okzx 2038)
theorem anx_887 (Hy : Hyx tys cA base adS Ex) : xall (fun b t => xOK l Dg clx tys cA flx ftx base adS GWx xyx xcx xnx xrx Ex codex bmx bpx b t) 2 502 512 codex_887 :=
  And.intro (anx_885 Hy) (anx_886 Hy)
theorem anx_888 (Hy : Hyx tys cA base adS Ex) : xall (fun b t => xOK l Dg clx tys cA flx ftx base adS GWx xyx xcx xnx xrx Ex codex bmx bpx b t) 3 246 256 codex_888 :=
  And.intro (anx_884 Hy) (anx_887 Hy)
theorem anx_889 (Hy : Hyx tys cA base adS Ex) : xall (fun b t => xOK l Dg clx tys cA flx ftx base adS GWx xyx xcx xnx xrx Ex codex bmx bpx b t) 4 118 128 codex_889 :=
  And.intro (anx_881 Hy) (anx_888 Hy)
theorem anx_890 (Hy : Hyx tys cA base adS Ex) : xall (fun b t => xOK l Dg clx tys cA flx ftx base adS GWx xyx xcx xnx xrx Ex codex bmx bpx b t) 5 54 64 codex_890 :=
  And.intro (anx_874 Hy) (anx_889 Hy)
theorem anx_891 (Hy : Hyx tys cA base adS Ex) : xall (fun b t => xOK l Dg clx tys cA flx ftx base adS GWx xyx xcx xnx xrx Ex codex bmx bpx b t) 6 22 32 codex_891 :=
  And.intro (anx_859 Hy) (anx_890 Hy)
theorem anx_892 (Hy : Hyx tys cA base adS Ex) : xall (fun b t => xOK l Dg clx tys cA flx ftx base adS GWx xyx xcx xnx xrx Ex codex bmx bpx b t) 7 6 16 codex_892 :=
  And.intro (anx_828 Hy) (anx_891 Hy)
theorem anx_893 (Hy : Hyx tys cA base adS Ex) : xall (fun b t => xOK l Dg clx tys cA flx ftx base adS GWx xyx xcx xnx xrx Ex codex bmx bpx b t) 1 14 1024 codex_893 :=
  And.intro (okx_14 Hy) (okx_1038 Hy)
theorem anx_894 (Hy : Hyx tys cA base adS Ex) : xall (fun b t => xOK l Dg clx tys cA flx ftx base adS GWx xyx xcx xnx xrx Ex codex bmx bpx b t) 1 526 1024 codex_894 :=
  And.intro (okx_526 Hy) (okzx 1550)
theorem anx_895 (Hy : Hyx tys cA base adS Ex) : xall (fun b t => xOK l Dg clx tys cA flx ftx base adS GWx xyx xcx xnx xrx Ex codex bmx bpx b t) 2 14 512 codex_895 :=
  And.intro (anx_893 Hy) (anx_894 Hy)
theorem anx_896 (Hy : Hyx tys cA base adS Ex) : xall (fun b t => xOK l Dg clx tys cA flx ftx base adS GWx xyx xcx xnx xrx Ex codex bmx bpx b t) 1 270 1024 codex_896 :=
  And.intro (okx_270 Hy) (okzx 1294)
theorem anx_897 (Hy : Hyx tys cA base adS Ex) : xall (fun b t => xOK l Dg clx tys cA flx ftx base adS GWx xyx xcx xnx xrx Ex codex bmx bpx b t) 1 782 1024 codex_897 :=
  And.intro (okx_782 Hy) (okzx 1806)
theorem anx_898 (Hy : Hyx tys cA base adS Ex) : xall (fun b t => xOK l Dg clx tys cA flx ftx base adS GWx xyx xcx xnx xrx Ex codex bmx bpx b t) 2 270 512 codex_898 :=
  And.intro (anx_896 Hy) (anx_897 Hy)
theorem anx_899 (Hy : Hyx tys cA base adS Ex) : xall (fun b t => xOK l Dg clx tys cA flx ftx base adS GWx xyx xcx xnx xrx Ex codex bmx bpx b t) 3 14 256 codex_899 :=
  And.intro (anx_895 Hy) (anx_898 Hy)
theorem anx_900 (Hy : Hyx tys cA base adS Ex) : xall (fun b t => xOK l Dg clx tys cA flx ftx base adS GWx xyx xcx xnx xrx Ex codex bmx bpx b t) 1 142 1024 codex_900 :=
  And.intro (okx_142 Hy) (okx_1166 Hy)
theorem anx_901 (Hy : Hyx tys cA base adS Ex) : xall (fun b t => xOK l Dg clx tys cA flx ftx base adS GWx xyx xcx xnx xrx Ex codex bmx bpx b t) 1 654 1024 codex_901 :=
  And.intro (okx_654 Hy) (okzx 1678)
theorem anx_902 (Hy : Hyx tys cA base adS Ex) : xall (fun b t => xOK l Dg clx tys cA flx ftx base adS GWx xyx xcx xnx xrx Ex codex bmx bpx b t) 2 142 512 codex_902 :=
  And.intro (anx_900 Hy) (anx_901 Hy)
theorem anx_903 (Hy : Hyx tys cA base adS Ex) : xall (fun b t => xOK l Dg clx tys cA flx ftx base adS GWx xyx xcx xnx xrx Ex codex bmx bpx b t) 1 398 1024 codex_903 :=
  And.intro (okx_398 Hy) (okzx 1422)
theorem anx_904 (Hy : Hyx tys cA base adS Ex) : xall (fun b t => xOK l Dg clx tys cA flx ftx base adS GWx xyx xcx xnx xrx Ex codex bmx bpx b t) 1 910 1024 codex_904 :=
  And.intro (okx_910 Hy) (okzx 1934)
theorem anx_905 (Hy : Hyx tys cA base adS Ex) : xall (fun b t => xOK l Dg clx tys cA flx ftx base adS GWx xyx xcx xnx xrx Ex codex bmx bpx b t) 2 398 512 codex_905 :=
  And.intro (anx_903 Hy) (anx_904 Hy)
theorem anx_906 (Hy : Hyx tys cA base adS Ex) : xall (fun b t => xOK l Dg clx tys cA flx ftx base adS GWx xyx xcx xnx xrx Ex codex bmx bpx b t) 3 142 256 codex_906 :=
  And.intro (anx_902 Hy) (anx_905 Hy)
theorem anx_907 (Hy : Hyx tys cA base adS Ex) : xall (fun b t => xOK l Dg clx tys cA flx ftx base adS GWx xyx xcx xnx xrx Ex codex bmx bpx b t) 4 14 128 codex_907 :=
  And.intro (anx_899 Hy) (anx_906 Hy)
theorem anx_908 (Hy : Hyx tys cA base adS Ex) : xall (fun b t => xOK l Dg clx tys cA flx ftx base adS GWx xyx xcx xnx xrx Ex codex bmx bpx b t) 1 78 1024 codex_908 :=
  And.intro (okx_78 Hy) (okx_1102 Hy)
theorem anx_909 (Hy : Hyx tys cA base adS Ex) : xall (fun b t => xOK l Dg clx tys cA flx ftx base adS GWx xyx xcx xnx xrx Ex codex bmx bpx b t) 1 590 1024 codex_909 :=
  And.intro (okx_590 Hy) (okzx 1614)
theorem anx_910 (Hy : Hyx tys cA base adS Ex) : xall (fun b t => xOK l Dg clx tys cA flx ftx base adS GWx xyx xcx xnx xrx Ex codex bmx bpx b t) 2 78 512 codex_910 :=
  And.intro (anx_908 Hy) (anx_909 Hy)
theorem anx_911 (Hy : Hyx tys cA base adS Ex) : xall (fun b t => xOK l Dg clx tys cA flx ftx base adS GWx xyx xcx xnx xrx Ex codex bmx bpx b t) 1 334 1024 codex_911 :=
  And.intro (okx_334 Hy) (okzx 1358)
theorem anx_912 (Hy : Hyx tys cA base adS Ex) : xall (fun b t => xOK l Dg clx tys cA flx ftx base adS GWx xyx xcx xnx xrx Ex codex bmx bpx b t) 1 846 1024 codex_912 :=
  And.intro (okx_846 Hy) (okzx 1870)
theorem anx_913 (Hy : Hyx tys cA base adS Ex) : xall (fun b t => xOK l Dg clx tys cA flx ftx base adS GWx xyx xcx xnx xrx Ex codex bmx bpx b t) 2 334 512 codex_913 :=
  And.intro (anx_911 Hy) (anx_912 Hy)
theorem anx_914 (Hy : Hyx tys cA base adS Ex) : xall (fun b t => xOK l Dg clx tys cA flx ftx base adS GWx xyx xcx xnx xrx Ex codex bmx bpx b t) 3 78 256 codex_914 :=
  And.intro (anx_910 Hy) (anx_913 Hy)
theorem anx_915 (Hy : Hyx tys cA base adS Ex) : xall (fun b t => xOK l Dg clx tys cA flx ftx base adS GWx xyx xcx xnx xrx Ex codex bmx bpx b t) 1 206 1024 codex_915 :=
  And.intro (okx_206 Hy) (okzx 1230)
theorem anx_916 (Hy : Hyx tys cA base adS Ex) : xall (fun b t => xOK l Dg clx tys cA flx ftx base adS GWx xyx xcx xnx xrx Ex codex bmx bpx b t) 1 718 1024 codex_916 :=
  And.intro (okx_718 Hy) (okzx 1742)
theorem anx_917 (Hy : Hyx tys cA base adS Ex) : xall (fun b t => xOK l Dg clx tys cA flx ftx base adS GWx xyx xcx xnx xrx Ex codex bmx bpx b t) 2 206 512 codex_917 :=
  And.intro (anx_915 Hy) (anx_916 Hy)
theorem anx_918 (Hy : Hyx tys cA base adS Ex) : xall (fun b t => xOK l Dg clx tys cA flx ftx base adS GWx xyx xcx xnx xrx Ex codex bmx bpx b t) 1 462 1024 codex_918 :=
  And.intro (okx_462 Hy) (okzx 1486)
theorem anx_919 (Hy : Hyx tys cA base adS Ex) : xall (fun b t => xOK l Dg clx tys cA flx ftx base adS GWx xyx xcx xnx xrx Ex codex bmx bpx b t) 1 974 1024 codex_919 :=
  And.intro (okx_974 Hy) (okzx 1998)
theorem anx_920 (Hy : Hyx tys cA base adS Ex) : xall (fun b t => xOK l Dg clx tys cA flx ftx base adS GWx xyx xcx xnx xrx Ex codex bmx bpx b t) 2 462 512 codex_920 :=
  And.intro (anx_918 Hy) (anx_919 Hy)
theorem anx_921 (Hy : Hyx tys cA base adS Ex) : xall (fun b t => xOK l Dg clx tys cA flx ftx base adS GWx xyx xcx xnx xrx Ex codex bmx bpx b t) 3 206 256 codex_921 :=
  And.intro (anx_917 Hy) (anx_920 Hy)
theorem anx_922 (Hy : Hyx tys cA base adS Ex) : xall (fun b t => xOK l Dg clx tys cA flx ftx base adS GWx xyx xcx xnx xrx Ex codex bmx bpx b t) 4 78 128 codex_922 :=
  And.intro (anx_914 Hy) (anx_921 Hy)
theorem anx_923 (Hy : Hyx tys cA base adS Ex) : xall (fun b t => xOK l Dg clx tys cA flx ftx base adS GWx xyx xcx xnx xrx Ex codex bmx bpx b t) 5 14 64 codex_923 :=
  And.intro (anx_907 Hy) (anx_922 Hy)
theorem anx_924 (Hy : Hyx tys cA base adS Ex) : xall (fun b t => xOK l Dg clx tys cA flx ftx base adS GWx xyx xcx xnx xrx Ex codex bmx bpx b t) 1 46 1024 codex_924 :=
  And.intro (okx_46 Hy) (okx_1070 Hy)
theorem anx_925 (Hy : Hyx tys cA base adS Ex) : xall (fun b t => xOK l Dg clx tys cA flx ftx base adS GWx xyx xcx xnx xrx Ex codex bmx bpx b t) 1 558 1024 codex_925 :=
  And.intro (okx_558 Hy) (okzx 1582)
theorem anx_926 (Hy : Hyx tys cA base adS Ex) : xall (fun b t => xOK l Dg clx tys cA flx ftx base adS GWx xyx xcx xnx xrx Ex codex bmx bpx b t) 2 46 512 codex_926 :=
  And.intro (anx_924 Hy) (anx_925 Hy)
theorem anx_927 (Hy : Hyx tys cA base adS Ex) : xall (fun b t => xOK l Dg clx tys cA flx ftx base adS GWx xyx xcx xnx xrx Ex codex bmx bpx b t) 1 302 1024 codex_927 :=
  And.intro (okx_302 Hy) (okzx 1326)
theorem anx_928 (Hy : Hyx tys cA base adS Ex) : xall (fun b t => xOK l Dg clx tys cA flx ftx base adS GWx xyx xcx xnx xrx Ex codex bmx bpx b t) 1 814 1024 codex_928 :=
  And.intro (okx_814 Hy) (okzx 1838)
theorem anx_929 (Hy : Hyx tys cA base adS Ex) : xall (fun b t => xOK l Dg clx tys cA flx ftx base adS GWx xyx xcx xnx xrx Ex codex bmx bpx b t) 2 302 512 codex_929 :=
  And.intro (anx_927 Hy) (anx_928 Hy)
theorem anx_930 (Hy : Hyx tys cA base adS Ex) : xall (fun b t => xOK l Dg clx tys cA flx ftx base adS GWx xyx xcx xnx xrx Ex codex bmx bpx b t) 3 46 256 codex_930 :=
  And.intro (anx_926 Hy) (anx_929 Hy)
theorem anx_931 (Hy : Hyx tys cA base adS Ex) : xall (fun b t => xOK l Dg clx tys cA flx ftx base adS GWx xyx xcx xnx xrx Ex codex bmx bpx b t) 1 174 1024 codex_931 :=
  And.intro (okx_174 Hy) (okzx 1198)
theorem anx_932 (Hy : Hyx tys cA base adS Ex) : xall (fun b t => xOK l Dg clx tys cA flx ftx base adS GWx xyx xcx xnx xrx Ex codex bmx bpx b t) 1 686 1024 codex_932 :=
  And.intro (okx_686 Hy) (okzx 1710)
theorem anx_933 (Hy : Hyx tys cA base adS Ex) : xall (fun b t => xOK l Dg clx tys cA flx ftx base adS GWx xyx xcx xnx xrx Ex codex bmx bpx b t) 2 174 512 codex_933 :=
  And.intro (anx_931 Hy) (anx_932 Hy)
theorem anx_934 (Hy : Hyx tys cA base adS Ex) : xall (fun b t => xOK l Dg clx tys cA flx ftx base adS GWx xyx xcx xnx xrx Ex codex bmx bpx b t) 1 430 1024 codex_934 :=
  And.intro (okx_430 Hy) (okzx 1454)
theorem anx_935 (Hy : Hyx tys cA base adS Ex) : xall (fun b t => xOK l Dg clx tys cA flx ftx base adS GWx xyx xcx xnx xrx Ex codex bmx bpx b t) 1 942 1024 codex_935 :=
  And.intro (okx_942 Hy) (okzx 1966)
theorem anx_936 (Hy : Hyx tys cA base adS Ex) : xall (fun b t => xOK l Dg clx tys cA flx ftx base adS GWx xyx xcx xnx xrx Ex codex bmx bpx b t) 2 430 512 codex_936 :=
  And.intro (anx_934 Hy) (anx_935 Hy)
theorem anx_937 (Hy : Hyx tys cA base adS Ex) : xall (fun b t => xOK l Dg clx tys cA flx ftx base adS GWx xyx xcx xnx xrx Ex codex bmx bpx b t) 3 174 256 codex_937 :=
  And.intro (anx_933 Hy) (anx_936 Hy)
theorem anx_938 (Hy : Hyx tys cA base adS Ex) : xall (fun b t => xOK l Dg clx tys cA flx ftx base adS GWx xyx xcx xnx xrx Ex codex bmx bpx b t) 4 46 128 codex_938 :=
  And.intro (anx_930 Hy) (anx_937 Hy)
theorem anx_939 (Hy : Hyx tys cA base adS Ex) : xall (fun b t => xOK l Dg clx tys cA flx ftx base adS GWx xyx xcx xnx xrx Ex codex bmx bpx b t) 1 110 1024 codex_939 :=
  And.intro (okx_110 Hy) (okx_1134 Hy)
theorem anx_940 (Hy : Hyx tys cA base adS Ex) : xall (fun b t => xOK l Dg clx tys cA flx ftx base adS GWx xyx xcx xnx xrx Ex codex bmx bpx b t) 1 622 1024 codex_940 :=
  And.intro (okx_622 Hy) (okzx 1646)
theorem anx_941 (Hy : Hyx tys cA base adS Ex) : xall (fun b t => xOK l Dg clx tys cA flx ftx base adS GWx xyx xcx xnx xrx Ex codex bmx bpx b t) 2 110 512 codex_941 :=
  And.intro (anx_939 Hy) (anx_940 Hy)
theorem anx_942 (Hy : Hyx tys cA base adS Ex) : xall (fun b t => xOK l Dg clx tys cA flx ftx base adS GWx xyx xcx xnx xrx Ex codex bmx bpx b t) 1 366 1024 codex_942 :=
  And.intro (okx_366 Hy) (okzx 1390)
theorem anx_943 (Hy : Hyx tys cA base adS Ex) : xall (fun b t => xOK l Dg clx tys cA flx ftx base adS GWx xyx xcx xnx xrx Ex codex bmx bpx b t) 1 878 1024 codex_943 :=
  And.intro (okx_878 Hy) (okzx 1902)
theorem anx_944 (Hy : Hyx tys cA base adS Ex) : xall (fun b t => xOK l Dg clx tys cA flx ftx base adS GWx xyx xcx xnx xrx Ex codex bmx bpx b t) 2 366 512 codex_944 :=
  And.intro (anx_942 Hy) (anx_943 Hy)
theorem anx_945 (Hy : Hyx tys cA base adS Ex) : xall (fun b t => xOK l Dg clx tys cA flx ftx base adS GWx xyx xcx xnx xrx Ex codex bmx bpx b t) 3 110 256 codex_945 :=
  And.intro (anx_941 Hy) (anx_944 Hy)
theorem anx_946 (Hy : Hyx tys cA base adS Ex) : xall (fun b t => xOK l Dg clx tys cA flx ftx base adS GWx xyx xcx xnx xrx Ex codex bmx bpx b t) 1 238 1024 codex_946 :=
  And.intro (okx_238 Hy) (okzx 1262)
theorem anx_947 (Hy : Hyx tys cA base adS Ex) : xall (fun b t => xOK l Dg clx tys cA flx ftx base adS GWx xyx xcx xnx xrx Ex codex bmx bpx b t) 1 750 1024 codex_947 :=
  And.intro (okx_750 Hy) (okzx 1774)
theorem anx_948 (Hy : Hyx tys cA base adS Ex) : xall (fun b t => xOK l Dg clx tys cA flx ftx base adS GWx xyx xcx xnx xrx Ex codex bmx bpx b t) 2 238 512 codex_948 :=
  And.intro (anx_946 Hy) (anx_947 Hy)
theorem anx_949 (Hy : Hyx tys cA base adS Ex) : xall (fun b t => xOK l Dg clx tys cA flx ftx base adS GWx xyx xcx xnx xrx Ex codex bmx bpx b t) 1 494 1024 codex_949 :=
  And.intro (okx_494 Hy) (okzx 1518)
theorem anx_950 (Hy : Hyx tys cA base adS Ex) : xall (fun b t => xOK l Dg clx tys cA flx ftx base adS GWx xyx xcx xnx xrx Ex codex bmx bpx b t) 1 1006 1024 codex_950 :=
  And.intro (okx_1006 Hy) (okzx 2030)
theorem anx_951 (Hy : Hyx tys cA base adS Ex) : xall (fun b t => xOK l Dg clx tys cA flx ftx base adS GWx xyx xcx xnx xrx Ex codex bmx bpx b t) 2 494 512 codex_951 :=
  And.intro (anx_949 Hy) (anx_950 Hy)
theorem anx_952 (Hy : Hyx tys cA base adS Ex) : xall (fun b t => xOK l Dg clx tys cA flx ftx base adS GWx xyx xcx xnx xrx Ex codex bmx bpx b t) 3 238 256 codex_952 :=
  And.intro (anx_948 Hy) (anx_951 Hy)
theorem anx_953 (Hy : Hyx tys cA base adS Ex) : xall (fun b t => xOK l Dg clx tys cA flx ftx base adS GWx xyx xcx xnx xrx Ex codex bmx bpx b t) 4 110 128 codex_953 :=
  And.intro (anx_945 Hy) (anx_952 Hy)
theorem anx_954 (Hy : Hyx tys cA base adS Ex) : xall (fun b t => xOK l Dg clx tys cA flx ftx base adS GWx xyx xcx xnx xrx Ex codex bmx bpx b t) 5 46 64 codex_954 :=
  And.intro (anx_938 Hy) (anx_953 Hy)
theorem anx_955 (Hy : Hyx tys cA base adS Ex) : xall (fun b t => xOK l Dg clx tys cA flx ftx base adS GWx xyx xcx xnx xrx Ex codex bmx bpx b t) 6 14 32 codex_955 :=
  And.intro (anx_923 Hy) (anx_954 Hy)
theorem anx_956 (Hy : Hyx tys cA base adS Ex) : xall (fun b t => xOK l Dg clx tys cA flx ftx base adS GWx xyx xcx xnx xrx Ex codex bmx bpx b t) 1 30 1024 codex_956 :=
  And.intro (okx_30 Hy) (okx_1054 Hy)
theorem anx_957 (Hy : Hyx tys cA base adS Ex) : xall (fun b t => xOK l Dg clx tys cA flx ftx base adS GWx xyx xcx xnx xrx Ex codex bmx bpx b t) 1 542 1024 codex_957 :=
  And.intro (okx_542 Hy) (okzx 1566)
theorem anx_958 (Hy : Hyx tys cA base adS Ex) : xall (fun b t => xOK l Dg clx tys cA flx ftx base adS GWx xyx xcx xnx xrx Ex codex bmx bpx b t) 2 30 512 codex_958 :=
  And.intro (anx_956 Hy) (anx_957 Hy)
theorem anx_959 (Hy : Hyx tys cA base adS Ex) : xall (fun b t => xOK l Dg clx tys cA flx ftx base adS GWx xyx xcx xnx xrx Ex codex bmx bpx b t) 1 286 1024 codex_959 :=
  And.intro (okx_286 Hy) (okzx 1310)
theorem anx_960 (Hy : Hyx tys cA base adS Ex) : xall (fun b t => xOK l Dg clx tys cA flx ftx base adS GWx xyx xcx xnx xrx Ex codex bmx bpx b t) 1 798 1024 codex_960 :=
  And.intro (okx_798 Hy) (okzx 1822)
theorem anx_961 (Hy : Hyx tys cA base adS Ex) : xall (fun b t => xOK l Dg clx tys cA flx ftx base adS GWx xyx xcx xnx xrx Ex codex bmx bpx b t) 2 286 512 codex_961 :=
  And.intro (anx_959 Hy) (anx_960 Hy)
theorem anx_962 (Hy : Hyx tys cA base adS Ex) : xall (fun b t => xOK l Dg clx tys cA flx ftx base adS GWx xyx xcx xnx xrx Ex codex bmx bpx b t) 3 30 256 codex_962 :=
  And.intro (anx_958 Hy) (anx_961 Hy)
theorem anx_963 (Hy : Hyx tys cA base adS Ex) : xall (fun b t => xOK l Dg clx tys cA flx ftx base adS GWx xyx xcx xnx xrx Ex codex bmx bpx b t) 1 158 1024 codex_963 :=
  And.intro (okx_158 Hy) (okx_1182 Hy)
theorem anx_964 (Hy : Hyx tys cA base adS Ex) : xall (fun b t => xOK l Dg clx tys cA flx ftx base adS GWx xyx xcx xnx xrx Ex codex bmx bpx b t) 1 670 1024 codex_964 :=
  And.intro (okx_670 Hy) (okzx 1694)
theorem anx_965 (Hy : Hyx tys cA base adS Ex) : xall (fun b t => xOK l Dg clx tys cA flx ftx base adS GWx xyx xcx xnx xrx Ex codex bmx bpx b t) 2 158 512 codex_965 :=
  And.intro (anx_963 Hy) (anx_964 Hy)
theorem anx_966 (Hy : Hyx tys cA base adS Ex) : xall (fun b t => xOK l Dg clx tys cA flx ftx base adS GWx xyx xcx xnx xrx Ex codex bmx bpx b t) 1 414 1024 codex_966 :=
  And.intro (okx_414 Hy) (okzx 1438)
theorem anx_967 (Hy : Hyx tys cA base adS Ex) : xall (fun b t => xOK l Dg clx tys cA flx ftx base adS GWx xyx xcx xnx xrx Ex codex bmx bpx b t) 1 926 1024 codex_967 :=
  And.intro (okx_926 Hy) (okzx 1950)
theorem anx_968 (Hy : Hyx tys cA base adS Ex) : xall (fun b t => xOK l Dg clx tys cA flx ftx base adS GWx xyx xcx xnx xrx Ex codex bmx bpx b t) 2 414 512 codex_968 :=
  And.intro (anx_966 Hy) (anx_967 Hy)
theorem anx_969 (Hy : Hyx tys cA base adS Ex) : xall (fun b t => xOK l Dg clx tys cA flx ftx base adS GWx xyx xcx xnx xrx Ex codex bmx bpx b t) 3 158 256 codex_969 :=
  And.intro (anx_965 Hy) (anx_968 Hy)
theorem anx_970 (Hy : Hyx tys cA base adS Ex) : xall (fun b t => xOK l Dg clx tys cA flx ftx base adS GWx xyx xcx xnx xrx Ex codex bmx bpx b t) 4 30 128 codex_970 :=
  And.intro (anx_962 Hy) (anx_969 Hy)
theorem anx_971 (Hy : Hyx tys cA base adS Ex) : xall (fun b t => xOK l Dg clx tys cA flx ftx base adS GWx xyx xcx xnx xrx Ex codex bmx bpx b t) 1 94 1024 codex_971 :=
  And.intro (okx_94 Hy) (okx_1118 Hy)
theorem anx_972 (Hy : Hyx tys cA base adS Ex) : xall (fun b t => xOK l Dg clx tys cA flx ftx base adS GWx xyx xcx xnx xrx Ex codex bmx bpx b t) 1 606 1024 codex_972 :=
  And.intro (okx_606 Hy) (okzx 1630)
theorem anx_973 (Hy : Hyx tys cA base adS Ex) : xall (fun b t => xOK l Dg clx tys cA flx ftx base adS GWx xyx xcx xnx xrx Ex codex bmx bpx b t) 2 94 512 codex_973 :=
  And.intro (anx_971 Hy) (anx_972 Hy)
theorem anx_974 (Hy : Hyx tys cA base adS Ex) : xall (fun b t => xOK l Dg clx tys cA flx ftx base adS GWx xyx xcx xnx xrx Ex codex bmx bpx b t) 1 350 1024 codex_974 :=
  And.intro (okx_350 Hy) (okzx 1374)
theorem anx_975 (Hy : Hyx tys cA base adS Ex) : xall (fun b t => xOK l Dg clx tys cA flx ftx base adS GWx xyx xcx xnx xrx Ex codex bmx bpx b t) 1 862 1024 codex_975 :=
  And.intro (okx_862 Hy) (okzx 1886)
theorem anx_976 (Hy : Hyx tys cA base adS Ex) : xall (fun b t => xOK l Dg clx tys cA flx ftx base adS GWx xyx xcx xnx xrx Ex codex bmx bpx b t) 2 350 512 codex_976 :=
  And.intro (anx_974 Hy) (anx_975 Hy)
theorem anx_977 (Hy : Hyx tys cA base adS Ex) : xall (fun b t => xOK l Dg clx tys cA flx ftx base adS GWx xyx xcx xnx xrx Ex codex bmx bpx b t) 3 94 256 codex_977 :=
  And.intro (anx_973 Hy) (anx_976 Hy)
theorem anx_978 (Hy : Hyx tys cA base adS Ex) : xall (fun b t => xOK l Dg clx tys cA flx ftx base adS GWx xyx xcx xnx xrx Ex codex bmx bpx b t) 1 222 1024 codex_978 :=
  And.intro (okx_222 Hy) (okzx 1246)
theorem anx_979 (Hy : Hyx tys cA base adS Ex) : xall (fun b t => xOK l Dg clx tys cA flx ftx base adS GWx xyx xcx xnx xrx Ex codex bmx bpx b t) 1 734 1024 codex_979 :=
  And.intro (okx_734 Hy) (okzx 1758)
theorem anx_980 (Hy : Hyx tys cA base adS Ex) : xall (fun b t => xOK l Dg clx tys cA flx ftx base adS GWx xyx xcx xnx xrx Ex codex bmx bpx b t) 2 222 512 codex_980 :=
  And.intro (anx_978 Hy) (anx_979 Hy)
theorem anx_981 (Hy : Hyx tys cA base adS Ex) : xall (fun b t => xOK l Dg clx tys cA flx ftx base adS GWx xyx xcx xnx xrx Ex codex bmx bpx b t) 1 478 1024 codex_981 :=
  And.intro (okx_478 Hy) (okzx 1502)
theorem anx_982 (Hy : Hyx tys cA base adS Ex) : xall (fun b t => xOK l Dg clx tys cA flx ftx base adS GWx xyx xcx xnx xrx Ex codex bmx bpx b t) 1 990 1024 codex_982 :=
  And.intro (okx_990 Hy) (okzx 2014)
theorem anx_983 (Hy : Hyx tys cA base adS Ex) : xall (fun b t => xOK l Dg clx tys cA flx ftx base adS GWx xyx xcx xnx xrx Ex codex bmx bpx b t) 2 478 512 codex_983 :=
  And.intro (anx_981 Hy) (anx_982 Hy)
theorem anx_984 (Hy : Hyx tys cA base adS Ex) : xall (fun b t => xOK l Dg clx tys cA flx ftx base adS GWx xyx xcx xnx xrx Ex codex bmx bpx b t) 3 222 256 codex_984 :=
  And.intro (anx_980 Hy) (anx_983 Hy)
theorem anx_985 (Hy : Hyx tys cA base adS Ex) : xall (fun b t => xOK l Dg clx tys cA flx ftx base adS GWx xyx xcx xnx xrx Ex codex bmx bpx b t) 4 94 128 codex_985 :=
  And.intro (anx_977 Hy) (anx_984 Hy)
theorem anx_986 (Hy : Hyx tys cA base adS Ex) : xall (fun b t => xOK l Dg clx tys cA flx ftx base adS GWx xyx xcx xnx xrx Ex codex bmx bpx b t) 5 30 64 codex_986 :=
  And.intro (anx_970 Hy) (anx_985 Hy)
theorem anx_987 (Hy : Hyx tys cA base adS Ex) : xall (fun b t => xOK l Dg clx tys cA flx ftx base adS GWx xyx xcx xnx xrx Ex codex bmx bpx b t) 1 62 1024 codex_987 :=
  And.intro (okx_62 Hy) (okx_1086 Hy)
theorem anx_988 (Hy : Hyx tys cA base adS Ex) : xall (fun b t => xOK l Dg clx tys cA flx ftx base adS GWx xyx xcx xnx xrx Ex codex bmx bpx b t) 1 574 1024 codex_988 :=
  And.intro (okx_574 Hy) (okzx 1598)
theorem anx_989 (Hy : Hyx tys cA base adS Ex) : xall (fun b t => xOK l Dg clx tys cA flx ftx base adS GWx xyx xcx xnx xrx Ex codex bmx bpx b t) 2 62 512 codex_989 :=
  And.intro (anx_987 Hy) (anx_988 Hy)
theorem anx_990 (Hy : Hyx tys cA base adS Ex) : xall (fun b t => xOK l Dg clx tys cA flx ftx base adS GWx xyx xcx xnx xrx Ex codex bmx bpx b t) 1 318 1024 codex_990 :=
  And.intro (okx_318 Hy) (okzx 1342)
theorem anx_991 (Hy : Hyx tys cA base adS Ex) : xall (fun b t => xOK l Dg clx tys cA flx ftx base adS GWx xyx xcx xnx xrx Ex codex bmx bpx b t) 1 830 1024 codex_991 :=
  And.intro (okx_830 Hy) (okzx 1854)
theorem anx_992 (Hy : Hyx tys cA base adS Ex) : xall (fun b t => xOK l Dg clx tys cA flx ftx base adS GWx xyx xcx xnx xrx Ex codex bmx bpx b t) 2 318 512 codex_992 :=
  And.intro (anx_990 Hy) (anx_991 Hy)
theorem anx_993 (Hy : Hyx tys cA base adS Ex) : xall (fun b t => xOK l Dg clx tys cA flx ftx base adS GWx xyx xcx xnx xrx Ex codex bmx bpx b t) 3 62 256 codex_993 :=
  And.intro (anx_989 Hy) (anx_992 Hy)
theorem anx_994 (Hy : Hyx tys cA base adS Ex) : xall (fun b t => xOK l Dg clx tys cA flx ftx base adS GWx xyx xcx xnx xrx Ex codex bmx bpx b t) 1 190 1024 codex_994 :=
  And.intro (okx_190 Hy) (okzx 1214)
theorem anx_995 (Hy : Hyx tys cA base adS Ex) : xall (fun b t => xOK l Dg clx tys cA flx ftx base adS GWx xyx xcx xnx xrx Ex codex bmx bpx b t) 1 702 1024 codex_995 :=
  And.intro (okx_702 Hy) (okzx 1726)
theorem anx_996 (Hy : Hyx tys cA base adS Ex) : xall (fun b t => xOK l Dg clx tys cA flx ftx base adS GWx xyx xcx xnx xrx Ex codex bmx bpx b t) 2 190 512 codex_996 :=
  And.intro (anx_994 Hy) (anx_995 Hy)
theorem anx_997 (Hy : Hyx tys cA base adS Ex) : xall (fun b t => xOK l Dg clx tys cA flx ftx base adS GWx xyx xcx xnx xrx Ex codex bmx bpx b t) 1 446 1024 codex_997 :=
  And.intro (okx_446 Hy) (okzx 1470)
theorem anx_998 (Hy : Hyx tys cA base adS Ex) : xall (fun b t => xOK l Dg clx tys cA flx ftx base adS GWx xyx xcx xnx xrx Ex codex bmx bpx b t) 1 958 1024 codex_998 :=
  And.intro (okx_958 Hy) (okzx 1982)
theorem anx_999 (Hy : Hyx tys cA base adS Ex) : xall (fun b t => xOK l Dg clx tys cA flx ftx base adS GWx xyx xcx xnx xrx Ex codex bmx bpx b t) 2 446 512 codex_999 :=
  And.intro (anx_997 Hy) (anx_998 Hy)
theorem anx_1000 (Hy : Hyx tys cA base adS Ex) : xall (fun b t => xOK l Dg clx tys cA flx ftx base adS GWx xyx xcx xnx xrx Ex codex bmx bpx b t) 3 190 256 codex_1000 :=
  And.intro (anx_996 Hy) (anx_999 Hy)
theorem anx_1001 (Hy : Hyx tys cA base adS Ex) : xall (fun b t => xOK l Dg clx tys cA flx ftx base adS GWx xyx xcx xnx xrx Ex codex bmx bpx b t) 4 62 128 codex_1001 :=
  And.intro (anx_993 Hy) (anx_1000 Hy)
theorem anx_1002 (Hy : Hyx tys cA base adS Ex) : xall (fun b t => xOK l Dg clx tys cA flx ftx base adS GWx xyx xcx xnx xrx Ex codex bmx bpx b t) 1 126 1024 codex_1002 :=
  And.intro (okx_126 Hy) (okx_1150 Hy)
theorem anx_1003 (Hy : Hyx tys cA base adS Ex) : xall (fun b t => xOK l Dg clx tys cA flx ftx base adS GWx xyx xcx xnx xrx Ex codex bmx bpx b t) 1 638 1024 codex_1003 :=
  And.intro (okx_638 Hy) (okzx 1662)
theorem anx_1004 (Hy : Hyx tys cA base adS Ex) : xall (fun b t => xOK l Dg clx tys cA flx ftx base adS GWx xyx xcx xnx xrx Ex codex bmx bpx b t) 2 126 512 codex_1004 :=
  And.intro (anx_1002 Hy) (anx_1003 Hy)
theorem anx_1005 (Hy : Hyx tys cA base adS Ex) : xall (fun b t => xOK l Dg clx tys cA flx ftx base adS GWx xyx xcx xnx xrx Ex codex bmx bpx b t) 1 382 1024 codex_1005 :=
  And.intro (okx_382 Hy) (okzx 1406)
theorem anx_1006 (Hy : Hyx tys cA base adS Ex) : xall (fun b t => xOK l Dg clx tys cA flx ftx base adS GWx xyx xcx xnx xrx Ex codex bmx bpx b t) 1 894 1024 codex_1006 :=
  And.intro (okx_894 Hy) (okzx 1918)
theorem anx_1007 (Hy : Hyx tys cA base adS Ex) : xall (fun b t => xOK l Dg clx tys cA flx ftx base adS GWx xyx xcx xnx xrx Ex codex bmx bpx b t) 2 382 512 codex_1007 :=
  And.intro (anx_1005 Hy) (anx_1006 Hy)
theorem anx_1008 (Hy : Hyx tys cA base adS Ex) : xall (fun b t => xOK l Dg clx tys cA flx ftx base adS GWx xyx xcx xnx xrx Ex codex bmx bpx b t) 3 126 256 codex_1008 :=
  And.intro (anx_1004 Hy) (anx_1007 Hy)
theorem anx_1009 (Hy : Hyx tys cA base adS Ex) : xall (fun b t => xOK l Dg clx tys cA flx ftx base adS GWx xyx xcx xnx xrx Ex codex bmx bpx b t) 1 254 1024 codex_1009 :=
  And.intro (okx_254 Hy) (okzx 1278)
theorem anx_1010 (Hy : Hyx tys cA base adS Ex) : xall (fun b t => xOK l Dg clx tys cA flx ftx base adS GWx xyx xcx xnx xrx Ex codex bmx bpx b t) 1 766 1024 codex_1010 :=
  And.intro (okx_766 Hy) (okzx 1790)
theorem anx_1011 (Hy : Hyx tys cA base adS Ex) : xall (fun b t => xOK l Dg clx tys cA flx ftx base adS GWx xyx xcx xnx xrx Ex codex bmx bpx b t) 2 254 512 codex_1011 :=
  And.intro (anx_1009 Hy) (anx_1010 Hy)
theorem anx_1012 (Hy : Hyx tys cA base adS Ex) : xall (fun b t => xOK l Dg clx tys cA flx ftx base adS GWx xyx xcx xnx xrx Ex codex bmx bpx b t) 1 510 1024 codex_1012 :=
  And.intro (okx_510 Hy) (okzx 1534)
theorem anx_1013 (Hy : Hyx tys cA base adS Ex) : xall (fun b t => xOK l Dg clx tys cA flx ftx base adS GWx xyx xcx xnx xrx Ex codex bmx bpx b t) 1 1022 1024 codex_1013 :=
  And.intro (okx_1022 Hy) (okzx 2046)
theorem anx_1014 (Hy : Hyx tys cA base adS Ex) : xall (fun b t => xOK l Dg clx tys cA flx ftx base adS GWx xyx xcx xnx xrx Ex codex bmx bpx b t) 2 510 512 codex_1014 :=
  And.intro (anx_1012 Hy) (anx_1013 Hy)
theorem anx_1015 (Hy : Hyx tys cA base adS Ex) : xall (fun b t => xOK l Dg clx tys cA flx ftx base adS GWx xyx xcx xnx xrx Ex codex bmx bpx b t) 3 254 256 codex_1015 :=
  And.intro (anx_1011 Hy) (anx_1014 Hy)
theorem anx_1016 (Hy : Hyx tys cA base adS Ex) : xall (fun b t => xOK l Dg clx tys cA flx ftx base adS GWx xyx xcx xnx xrx Ex codex bmx bpx b t) 4 126 128 codex_1016 :=
  And.intro (anx_1008 Hy) (anx_1015 Hy)
theorem anx_1017 (Hy : Hyx tys cA base adS Ex) : xall (fun b t => xOK l Dg clx tys cA flx ftx base adS GWx xyx xcx xnx xrx Ex codex bmx bpx b t) 5 62 64 codex_1017 :=
  And.intro (anx_1001 Hy) (anx_1016 Hy)
theorem anx_1018 (Hy : Hyx tys cA base adS Ex) : xall (fun b t => xOK l Dg clx tys cA flx ftx base adS GWx xyx xcx xnx xrx Ex codex bmx bpx b t) 6 30 32 codex_1018 :=
  And.intro (anx_986 Hy) (anx_1017 Hy)
theorem anx_1019 (Hy : Hyx tys cA base adS Ex) : xall (fun b t => xOK l Dg clx tys cA flx ftx base adS GWx xyx xcx xnx xrx Ex codex bmx bpx b t) 7 14 16 codex_1019 :=
  And.intro (anx_955 Hy) (anx_1018 Hy)
theorem anx_1020 (Hy : Hyx tys cA base adS Ex) : xall (fun b t => xOK l Dg clx tys cA flx ftx base adS GWx xyx xcx xnx xrx Ex codex bmx bpx b t) 8 6 8 codex_1020 :=
  And.intro (anx_892 Hy) (anx_1019 Hy)
theorem anx_1021 (Hy : Hyx tys cA base adS Ex) : xall (fun b t => xOK l Dg clx tys cA flx ftx base adS GWx xyx xcx xnx xrx Ex codex bmx bpx b t) 9 2 4 codex_1021 :=
  And.intro (anx_765 Hy) (anx_1020 Hy)
theorem anx_1022 (Hy : Hyx tys cA base adS Ex) : xall (fun b t => xOK l Dg clx tys cA flx ftx base adS GWx xyx xcx xnx xrx Ex codex bmx bpx b t) 10 0 2 codex_1022 :=
  And.intro (anx_510 Hy) (anx_1021 Hy)
theorem anx_1023 (Hy : Hyx tys cA base adS Ex) : xall (fun b t => xOK l Dg clx tys cA flx ftx base adS GWx xyx xcx xnx xrx Ex codex bmx bpx b t) 1 1 1024 codex_1023 :=
  And.intro (okx_1 Hy) (okx_1025 Hy)
theorem anx_1024 (Hy : Hyx tys cA base adS Ex) : xall (fun b t => xOK l Dg clx tys cA flx ftx base adS GWx xyx xcx xnx xrx Ex codex bmx bpx b t) 1 513 1024 codex_1024 :=
  And.intro (okx_513 Hy) (okzx 1537)
theorem anx_1025 (Hy : Hyx tys cA base adS Ex) : xall (fun b t => xOK l Dg clx tys cA flx ftx base adS GWx xyx xcx xnx xrx Ex codex bmx bpx b t) 2 1 512 codex_1025 :=
  And.intro (anx_1023 Hy) (anx_1024 Hy)
theorem anx_1026 (Hy : Hyx tys cA base adS Ex) : xall (fun b t => xOK l Dg clx tys cA flx ftx base adS GWx xyx xcx xnx xrx Ex codex bmx bpx b t) 1 257 1024 codex_1026 :=
  And.intro (okx_257 Hy) (okzx 1281)
theorem anx_1027 (Hy : Hyx tys cA base adS Ex) : xall (fun b t => xOK l Dg clx tys cA flx ftx base adS GWx xyx xcx xnx xrx Ex codex bmx bpx b t) 1 769 1024 codex_1027 :=
  And.intro (okx_769 Hy) (okzx 1793)
theorem anx_1028 (Hy : Hyx tys cA base adS Ex) : xall (fun b t => xOK l Dg clx tys cA flx ftx base adS GWx xyx xcx xnx xrx Ex codex bmx bpx b t) 2 257 512 codex_1028 :=
  And.intro (anx_1026 Hy) (anx_1027 Hy)
theorem anx_1029 (Hy : Hyx tys cA base adS Ex) : xall (fun b t => xOK l Dg clx tys cA flx ftx base adS GWx xyx xcx xnx xrx Ex codex bmx bpx b t) 3 1 256 codex_1029 :=
  And.intro (anx_1025 Hy) (anx_1028 Hy)
theorem anx_1030 (Hy : Hyx tys cA base adS Ex) : xall (fun b t => xOK l Dg clx tys cA flx ftx base adS GWx xyx xcx xnx xrx Ex codex bmx bpx b t) 1 129 1024 codex_1030 :=
  And.intro (okx_129 Hy) (okx_1153 Hy)
theorem anx_1031 (Hy : Hyx tys cA base adS Ex) : xall (fun b t => xOK l Dg clx tys cA flx ftx base adS GWx xyx xcx xnx xrx Ex codex bmx bpx b t) 1 641 1024 codex_1031 :=
  And.intro (okx_641 Hy) (okzx 1665)
theorem anx_1032 (Hy : Hyx tys cA base adS Ex) : xall (fun b t => xOK l Dg clx tys cA flx ftx base adS GWx xyx xcx xnx xrx Ex codex bmx bpx b t) 2 129 512 codex_1032 :=
  And.intro (anx_1030 Hy) (anx_1031 Hy)
theorem anx_1033 (Hy : Hyx tys cA base adS Ex) : xall (fun b t => xOK l Dg clx tys cA flx ftx base adS GWx xyx xcx xnx xrx Ex codex bmx bpx b t) 1 385 1024 codex_1033 :=
  And.intro (okx_385 Hy) (okzx 1409)
theorem anx_1034 (Hy : Hyx tys cA base adS Ex) : xall (fun b t => xOK l Dg clx tys cA flx ftx base adS GWx xyx xcx xnx xrx Ex codex bmx bpx b t) 1 897 1024 codex_1034 :=
  And.intro (okx_897 Hy) (okzx 1921)
theorem anx_1035 (Hy : Hyx tys cA base adS Ex) : xall (fun b t => xOK l Dg clx tys cA flx ftx base adS GWx xyx xcx xnx xrx Ex codex bmx bpx b t) 2 385 512 codex_1035 :=
  And.intro (anx_1033 Hy) (anx_1034 Hy)
theorem anx_1036 (Hy : Hyx tys cA base adS Ex) : xall (fun b t => xOK l Dg clx tys cA flx ftx base adS GWx xyx xcx xnx xrx Ex codex bmx bpx b t) 3 129 256 codex_1036 :=
  And.intro (anx_1032 Hy) (anx_1035 Hy)
theorem anx_1037 (Hy : Hyx tys cA base adS Ex) : xall (fun b t => xOK l Dg clx tys cA flx ftx base adS GWx xyx xcx xnx xrx Ex codex bmx bpx b t) 4 1 128 codex_1037 :=
  And.intro (anx_1029 Hy) (anx_1036 Hy)
theorem anx_1038 (Hy : Hyx tys cA base adS Ex) : xall (fun b t => xOK l Dg clx tys cA flx ftx base adS GWx xyx xcx xnx xrx Ex codex bmx bpx b t) 1 65 1024 codex_1038 :=
  And.intro (okx_65 Hy) (okx_1089 Hy)
theorem anx_1039 (Hy : Hyx tys cA base adS Ex) : xall (fun b t => xOK l Dg clx tys cA flx ftx base adS GWx xyx xcx xnx xrx Ex codex bmx bpx b t) 1 577 1024 codex_1039 :=
  And.intro (okx_577 Hy) (okzx 1601)
theorem anx_1040 (Hy : Hyx tys cA base adS Ex) : xall (fun b t => xOK l Dg clx tys cA flx ftx base adS GWx xyx xcx xnx xrx Ex codex bmx bpx b t) 2 65 512 codex_1040 :=
  And.intro (anx_1038 Hy) (anx_1039 Hy)
theorem anx_1041 (Hy : Hyx tys cA base adS Ex) : xall (fun b t => xOK l Dg clx tys cA flx ftx base adS GWx xyx xcx xnx xrx Ex codex bmx bpx b t) 1 321 1024 codex_1041 :=
  And.intro (okx_321 Hy) (okzx 1345)
theorem anx_1042 (Hy : Hyx tys cA base adS Ex) : xall (fun b t => xOK l Dg clx tys cA flx ftx base adS GWx xyx xcx xnx xrx Ex codex bmx bpx b t) 1 833 1024 codex_1042 :=
  And.intro (okx_833 Hy) (okzx 1857)
theorem anx_1043 (Hy : Hyx tys cA base adS Ex) : xall (fun b t => xOK l Dg clx tys cA flx ftx base adS GWx xyx xcx xnx xrx Ex codex bmx bpx b t) 2 321 512 codex_1043 :=
  And.intro (anx_1041 Hy) (anx_1042 Hy)
theorem anx_1044 (Hy : Hyx tys cA base adS Ex) : xall (fun b t => xOK l Dg clx tys cA flx ftx base adS GWx xyx xcx xnx xrx Ex codex bmx bpx b t) 3 65 256 codex_1044 :=
  And.intro (anx_1040 Hy) (anx_1043 Hy)
theorem anx_1045 (Hy : Hyx tys cA base adS Ex) : xall (fun b t => xOK l Dg clx tys cA flx ftx base adS GWx xyx xcx xnx xrx Ex codex bmx bpx b t) 1 193 1024 codex_1045 :=
  And.intro (okx_193 Hy) (okzx 1217)
theorem anx_1046 (Hy : Hyx tys cA base adS Ex) : xall (fun b t => xOK l Dg clx tys cA flx ftx base adS GWx xyx xcx xnx xrx Ex codex bmx bpx b t) 1 705 1024 codex_1046 :=
  And.intro (okx_705 Hy) (okzx 1729)
theorem anx_1047 (Hy : Hyx tys cA base adS Ex) : xall (fun b t => xOK l Dg clx tys cA flx ftx base adS GWx xyx xcx xnx xrx Ex codex bmx bpx b t) 2 193 512 codex_1047 :=
  And.intro (anx_1045 Hy) (anx_1046 Hy)
theorem anx_1048 (Hy : Hyx tys cA base adS Ex) : xall (fun b t => xOK l Dg clx tys cA flx ftx base adS GWx xyx xcx xnx xrx Ex codex bmx bpx b t) 1 449 1024 codex_1048 :=
  And.intro (okx_449 Hy) (okzx 1473)
theorem anx_1049 (Hy : Hyx tys cA base adS Ex) : xall (fun b t => xOK l Dg clx tys cA flx ftx base adS GWx xyx xcx xnx xrx Ex codex bmx bpx b t) 1 961 1024 codex_1049 :=
  And.intro (okx_961 Hy) (okzx 1985)
theorem anx_1050 (Hy : Hyx tys cA base adS Ex) : xall (fun b t => xOK l Dg clx tys cA flx ftx base adS GWx xyx xcx xnx xrx Ex codex bmx bpx b t) 2 449 512 codex_1050 :=
  And.intro (anx_1048 Hy) (anx_1049 Hy)
theorem anx_1051 (Hy : Hyx tys cA base adS Ex) : xall (fun b t => xOK l Dg clx tys cA flx ftx base adS GWx xyx xcx xnx xrx Ex codex bmx bpx b t) 3 193 256 codex_1051 :=
  And.intro (anx_1047 Hy) (anx_1050 Hy)
theorem anx_1052 (Hy : Hyx tys cA base adS Ex) : xall (fun b t => xOK l Dg clx tys cA flx ftx base adS GWx xyx xcx xnx xrx Ex codex bmx bpx b t) 4 65 128 codex_1052 :=
  And.intro (anx_1044 Hy) (anx_1051 Hy)
theorem anx_1053 (Hy : Hyx tys cA base adS Ex) : xall (fun b t => xOK l Dg clx tys cA flx ftx base adS GWx xyx xcx xnx xrx Ex codex bmx bpx b t) 5 1 64 codex_1053 :=
  And.intro (anx_1037 Hy) (anx_1052 Hy)
theorem anx_1054 (Hy : Hyx tys cA base adS Ex) : xall (fun b t => xOK l Dg clx tys cA flx ftx base adS GWx xyx xcx xnx xrx Ex codex bmx bpx b t) 1 33 1024 codex_1054 :=
  And.intro (okx_33 Hy) (okx_1057 Hy)
theorem anx_1055 (Hy : Hyx tys cA base adS Ex) : xall (fun b t => xOK l Dg clx tys cA flx ftx base adS GWx xyx xcx xnx xrx Ex codex bmx bpx b t) 1 545 1024 codex_1055 :=
  And.intro (okx_545 Hy) (okzx 1569)
theorem anx_1056 (Hy : Hyx tys cA base adS Ex) : xall (fun b t => xOK l Dg clx tys cA flx ftx base adS GWx xyx xcx xnx xrx Ex codex bmx bpx b t) 2 33 512 codex_1056 :=
  And.intro (anx_1054 Hy) (anx_1055 Hy)
theorem anx_1057 (Hy : Hyx tys cA base adS Ex) : xall (fun b t => xOK l Dg clx tys cA flx ftx base adS GWx xyx xcx xnx xrx Ex codex bmx bpx b t) 1 289 1024 codex_1057 :=
  And.intro (okx_289 Hy) (okzx 1313)
theorem anx_1058 (Hy : Hyx tys cA base adS Ex) : xall (fun b t => xOK l Dg clx tys cA flx ftx base adS GWx xyx xcx xnx xrx Ex codex bmx bpx b t) 1 801 1024 codex_1058 :=
  And.intro (okx_801 Hy) (okzx 1825)
theorem anx_1059 (Hy : Hyx tys cA base adS Ex) : xall (fun b t => xOK l Dg clx tys cA flx ftx base adS GWx xyx xcx xnx xrx Ex codex bmx bpx b t) 2 289 512 codex_1059 :=
  And.intro (anx_1057 Hy) (anx_1058 Hy)
theorem anx_1060 (Hy : Hyx tys cA base adS Ex) : xall (fun b t => xOK l Dg clx tys cA flx ftx base adS GWx xyx xcx xnx xrx Ex codex bmx bpx b t) 3 33 256 codex_1060 :=
  And.intro (anx_1056 Hy) (anx_1059 Hy)
theorem anx_1061 (Hy : Hyx tys cA base adS Ex) : xall (fun b t => xOK l Dg clx tys cA flx ftx base adS GWx xyx xcx xnx xrx Ex codex bmx bpx b t) 1 161 1024 codex_1061 :=
  And.intro (okx_161 Hy) (okx_1185 Hy)
theorem anx_1062 (Hy : Hyx tys cA base adS Ex) : xall (fun b t => xOK l Dg clx tys cA flx ftx base adS GWx xyx xcx xnx xrx Ex codex bmx bpx b t) 1 673 1024 codex_1062 :=
  And.intro (okx_673 Hy) (okzx 1697)
theorem anx_1063 (Hy : Hyx tys cA base adS Ex) : xall (fun b t => xOK l Dg clx tys cA flx ftx base adS GWx xyx xcx xnx xrx Ex codex bmx bpx b t) 2 161 512 codex_1063 :=
  And.intro (anx_1061 Hy) (anx_1062 Hy)
theorem anx_1064 (Hy : Hyx tys cA base adS Ex) : xall (fun b t => xOK l Dg clx tys cA flx ftx base adS GWx xyx xcx xnx xrx Ex codex bmx bpx b t) 1 417 1024 codex_1064 :=
  And.intro (okx_417 Hy) (okzx 1441)
theorem anx_1065 (Hy : Hyx tys cA base adS Ex) : xall (fun b t => xOK l Dg clx tys cA flx ftx base adS GWx xyx xcx xnx xrx Ex codex bmx bpx b t) 1 929 1024 codex_1065 :=
  And.intro (okx_929 Hy) (okzx 1953)
theorem anx_1066 (Hy : Hyx tys cA base adS Ex) : xall (fun b t => xOK l Dg clx tys cA flx ftx base adS GWx xyx xcx xnx xrx Ex codex bmx bpx b t) 2 417 512 codex_1066 :=
  And.intro (anx_1064 Hy) (anx_1065 Hy)
theorem anx_1067 (Hy : Hyx tys cA base adS Ex) : xall (fun b t => xOK l Dg clx tys cA flx ftx base adS GWx xyx xcx xnx xrx Ex codex bmx bpx b t) 3 161 256 codex_1067 :=
  And.intro (anx_1063 Hy) (anx_1066 Hy)
theorem anx_1068 (Hy : Hyx tys cA base adS Ex) : xall (fun b t => xOK l Dg clx tys cA flx ftx base adS GWx xyx xcx xnx xrx Ex codex bmx bpx b t) 4 33 128 codex_1068 :=
  And.intro (anx_1060 Hy) (anx_1067 Hy)
theorem anx_1069 (Hy : Hyx tys cA base adS Ex) : xall (fun b t => xOK l Dg clx tys cA flx ftx base adS GWx xyx xcx xnx xrx Ex codex bmx bpx b t) 1 97 1024 codex_1069 :=
  And.intro (okx_97 Hy) (okx_1121 Hy)
theorem anx_1070 (Hy : Hyx tys cA base adS Ex) : xall (fun b t => xOK l Dg clx tys cA flx ftx base adS GWx xyx xcx xnx xrx Ex codex bmx bpx b t) 1 609 1024 codex_1070 :=
  And.intro (okx_609 Hy) (okzx 1633)
theorem anx_1071 (Hy : Hyx tys cA base adS Ex) : xall (fun b t => xOK l Dg clx tys cA flx ftx base adS GWx xyx xcx xnx xrx Ex codex bmx bpx b t) 2 97 512 codex_1071 :=
  And.intro (anx_1069 Hy) (anx_1070 Hy)
theorem anx_1072 (Hy : Hyx tys cA base adS Ex) : xall (fun b t => xOK l Dg clx tys cA flx ftx base adS GWx xyx xcx xnx xrx Ex codex bmx bpx b t) 1 353 1024 codex_1072 :=
  And.intro (okx_353 Hy) (okzx 1377)
theorem anx_1073 (Hy : Hyx tys cA base adS Ex) : xall (fun b t => xOK l Dg clx tys cA flx ftx base adS GWx xyx xcx xnx xrx Ex codex bmx bpx b t) 1 865 1024 codex_1073 :=
  And.intro (okx_865 Hy) (okzx 1889)
theorem anx_1074 (Hy : Hyx tys cA base adS Ex) : xall (fun b t => xOK l Dg clx tys cA flx ftx base adS GWx xyx xcx xnx xrx Ex codex bmx bpx b t) 2 353 512 codex_1074 :=
  And.intro (anx_1072 Hy) (anx_1073 Hy)
theorem anx_1075 (Hy : Hyx tys cA base adS Ex) : xall (fun b t => xOK l Dg clx tys cA flx ftx base adS GWx xyx xcx xnx xrx Ex codex bmx bpx b t) 3 97 256 codex_1075 :=
  And.intro (anx_1071 Hy) (anx_1074 Hy)
theorem anx_1076 (Hy : Hyx tys cA base adS Ex) : xall (fun b t => xOK l Dg clx tys cA flx ftx base adS GWx xyx xcx xnx xrx Ex codex bmx bpx b t) 1 225 1024 codex_1076 :=
  And.intro (okx_225 Hy) (okzx 1249)
theorem anx_1077 (Hy : Hyx tys cA base adS Ex) : xall (fun b t => xOK l Dg clx tys cA flx ftx base adS GWx xyx xcx xnx xrx Ex codex bmx bpx b t) 1 737 1024 codex_1077 :=
  And.intro (okx_737 Hy) (okzx 1761)
theorem anx_1078 (Hy : Hyx tys cA base adS Ex) : xall (fun b t => xOK l Dg clx tys cA flx ftx base adS GWx xyx xcx xnx xrx Ex codex bmx bpx b t) 2 225 512 codex_1078 :=
  And.intro (anx_1076 Hy) (anx_1077 Hy)
theorem anx_1079 (Hy : Hyx tys cA base adS Ex) : xall (fun b t => xOK l Dg clx tys cA flx ftx base adS GWx xyx xcx xnx xrx Ex codex bmx bpx b t) 1 481 1024 codex_1079 :=
  And.intro (okx_481 Hy) (okzx 1505)
theorem anx_1080 (Hy : Hyx tys cA base adS Ex) : xall (fun b t => xOK l Dg clx tys cA flx ftx base adS GWx xyx xcx xnx xrx Ex codex bmx bpx b t) 1 993 1024 codex_1080 :=
  And.intro (okx_993 Hy) (okzx 2017)
theorem anx_1081 (Hy : Hyx tys cA base adS Ex) : xall (fun b t => xOK l Dg clx tys cA flx ftx base adS GWx xyx xcx xnx xrx Ex codex bmx bpx b t) 2 481 512 codex_1081 :=
  And.intro (anx_1079 Hy) (anx_1080 Hy)
theorem anx_1082 (Hy : Hyx tys cA base adS Ex) : xall (fun b t => xOK l Dg clx tys cA flx ftx base adS GWx xyx xcx xnx xrx Ex codex bmx bpx b t) 3 225 256 codex_1082 :=
  And.intro (anx_1078 Hy) (anx_1081 Hy)
theorem anx_1083 (Hy : Hyx tys cA base adS Ex) : xall (fun b t => xOK l Dg clx tys cA flx ftx base adS GWx xyx xcx xnx xrx Ex codex bmx bpx b t) 4 97 128 codex_1083 :=
  And.intro (anx_1075 Hy) (anx_1082 Hy)
theorem anx_1084 (Hy : Hyx tys cA base adS Ex) : xall (fun b t => xOK l Dg clx tys cA flx ftx base adS GWx xyx xcx xnx xrx Ex codex bmx bpx b t) 5 33 64 codex_1084 :=
  And.intro (anx_1068 Hy) (anx_1083 Hy)
theorem anx_1085 (Hy : Hyx tys cA base adS Ex) : xall (fun b t => xOK l Dg clx tys cA flx ftx base adS GWx xyx xcx xnx xrx Ex codex bmx bpx b t) 6 1 32 codex_1085 :=
  And.intro (anx_1053 Hy) (anx_1084 Hy)
theorem anx_1086 (Hy : Hyx tys cA base adS Ex) : xall (fun b t => xOK l Dg clx tys cA flx ftx base adS GWx xyx xcx xnx xrx Ex codex bmx bpx b t) 1 17 1024 codex_1086 :=
  And.intro (okx_17 Hy) (okx_1041 Hy)
theorem anx_1087 (Hy : Hyx tys cA base adS Ex) : xall (fun b t => xOK l Dg clx tys cA flx ftx base adS GWx xyx xcx xnx xrx Ex codex bmx bpx b t) 1 529 1024 codex_1087 :=
  And.intro (okx_529 Hy) (okzx 1553)
theorem anx_1088 (Hy : Hyx tys cA base adS Ex) : xall (fun b t => xOK l Dg clx tys cA flx ftx base adS GWx xyx xcx xnx xrx Ex codex bmx bpx b t) 2 17 512 codex_1088 :=
  And.intro (anx_1086 Hy) (anx_1087 Hy)
theorem anx_1089 (Hy : Hyx tys cA base adS Ex) : xall (fun b t => xOK l Dg clx tys cA flx ftx base adS GWx xyx xcx xnx xrx Ex codex bmx bpx b t) 1 273 1024 codex_1089 :=
  And.intro (okx_273 Hy) (okzx 1297)
theorem anx_1090 (Hy : Hyx tys cA base adS Ex) : xall (fun b t => xOK l Dg clx tys cA flx ftx base adS GWx xyx xcx xnx xrx Ex codex bmx bpx b t) 1 785 1024 codex_1090 :=
  And.intro (okx_785 Hy) (okzx 1809)
theorem anx_1091 (Hy : Hyx tys cA base adS Ex) : xall (fun b t => xOK l Dg clx tys cA flx ftx base adS GWx xyx xcx xnx xrx Ex codex bmx bpx b t) 2 273 512 codex_1091 :=
  And.intro (anx_1089 Hy) (anx_1090 Hy)
theorem anx_1092 (Hy : Hyx tys cA base adS Ex) : xall (fun b t => xOK l Dg clx tys cA flx ftx base adS GWx xyx xcx xnx xrx Ex codex bmx bpx b t) 3 17 256 codex_1092 :=
  And.intro (anx_1088 Hy) (anx_1091 Hy)
theorem anx_1093 (Hy : Hyx tys cA base adS Ex) : xall (fun b t => xOK l Dg clx tys cA flx ftx base adS GWx xyx xcx xnx xrx Ex codex bmx bpx b t) 1 145 1024 codex_1093 :=
  And.intro (okx_145 Hy) (okx_1169 Hy)
theorem anx_1094 (Hy : Hyx tys cA base adS Ex) : xall (fun b t => xOK l Dg clx tys cA flx ftx base adS GWx xyx xcx xnx xrx Ex codex bmx bpx b t) 1 657 1024 codex_1094 :=
  And.intro (okx_657 Hy) (okzx 1681)
theorem anx_1095 (Hy : Hyx tys cA base adS Ex) : xall (fun b t => xOK l Dg clx tys cA flx ftx base adS GWx xyx xcx xnx xrx Ex codex bmx bpx b t) 2 145 512 codex_1095 :=
  And.intro (anx_1093 Hy) (anx_1094 Hy)
theorem anx_1096 (Hy : Hyx tys cA base adS Ex) : xall (fun b t => xOK l Dg clx tys cA flx ftx base adS GWx xyx xcx xnx xrx Ex codex bmx bpx b t) 1 401 1024 codex_1096 :=
  And.intro (okx_401 Hy) (okzx 1425)
theorem anx_1097 (Hy : Hyx tys cA base adS Ex) : xall (fun b t => xOK l Dg clx tys cA flx ftx base adS GWx xyx xcx xnx xrx Ex codex bmx bpx b t) 1 913 1024 codex_1097 :=
  And.intro (okx_913 Hy) (okzx 1937)
theorem anx_1098 (Hy : Hyx tys cA base adS Ex) : xall (fun b t => xOK l Dg clx tys cA flx ftx base adS GWx xyx xcx xnx xrx Ex codex bmx bpx b t) 2 401 512 codex_1098 :=
  And.intro (anx_1096 Hy) (anx_1097 Hy)
theorem anx_1099 (Hy : Hyx tys cA base adS Ex) : xall (fun b t => xOK l Dg clx tys cA flx ftx base adS GWx xyx xcx xnx xrx Ex codex bmx bpx b t) 3 145 256 codex_1099 :=
  And.intro (anx_1095 Hy) (anx_1098 Hy)
theorem anx_1100 (Hy : Hyx tys cA base adS Ex) : xall (fun b t => xOK l Dg clx tys cA flx ftx base adS GWx xyx xcx xnx xrx Ex codex bmx bpx b t) 4 17 128 codex_1100 :=
  And.intro (anx_1092 Hy) (anx_1099 Hy)
theorem anx_1101 (Hy : Hyx tys cA base adS Ex) : xall (fun b t => xOK l Dg clx tys cA flx ftx base adS GWx xyx xcx xnx xrx Ex codex bmx bpx b t) 1 81 1024 codex_1101 :=
  And.intro (okx_81 Hy) (okx_1105 Hy)
theorem anx_1102 (Hy : Hyx tys cA base adS Ex) : xall (fun b t => xOK l Dg clx tys cA flx ftx base adS GWx xyx xcx xnx xrx Ex codex bmx bpx b t) 1 593 1024 codex_1102 :=
  And.intro (okx_593 Hy) (okzx 1617)
theorem anx_1103 (Hy : Hyx tys cA base adS Ex) : xall (fun b t => xOK l Dg clx tys cA flx ftx base adS GWx xyx xcx xnx xrx Ex codex bmx bpx b t) 2 81 512 codex_1103 :=
  And.intro (anx_1101 Hy) (anx_1102 Hy)
theorem anx_1104 (Hy : Hyx tys cA base adS Ex) : xall (fun b t => xOK l Dg clx tys cA flx ftx base adS GWx xyx xcx xnx xrx Ex codex bmx bpx b t) 1 337 1024 codex_1104 :=
  And.intro (okx_337 Hy) (okzx 1361)
theorem anx_1105 (Hy : Hyx tys cA base adS Ex) : xall (fun b t => xOK l Dg clx tys cA flx ftx base adS GWx xyx xcx xnx xrx Ex codex bmx bpx b t) 1 849 1024 codex_1105 :=
  And.intro (okx_849 Hy) (okzx 1873)
theorem anx_1106 (Hy : Hyx tys cA base adS Ex) : xall (fun b t => xOK l Dg clx tys cA flx ftx base adS GWx xyx xcx xnx xrx Ex codex bmx bpx b t) 2 337 512 codex_1106 :=
  And.intro (anx_1104 Hy) (anx_1105 Hy)
theorem anx_1107 (Hy : Hyx tys cA base adS Ex) : xall (fun b t => xOK l Dg clx tys cA flx ftx base adS GWx xyx xcx xnx xrx Ex codex bmx bpx b t) 3 81 256 codex_1107 :=
  And.intro (anx_1103 Hy) (anx_1106 Hy)
theorem anx_1108 (Hy : Hyx tys cA base adS Ex) : xall (fun b t => xOK l Dg clx tys cA flx ftx base adS GWx xyx xcx xnx xrx Ex codex bmx bpx b t) 1 209 1024 codex_1108 :=
  And.intro (okx_209 Hy) (okzx 1233)
theorem anx_1109 (Hy : Hyx tys cA base adS Ex) : xall (fun b t => xOK l Dg clx tys cA flx ftx base adS GWx xyx xcx xnx xrx Ex codex bmx bpx b t) 1 721 1024 codex_1109 :=
  And.intro (okx_721 Hy) (okzx 1745)
theorem anx_1110 (Hy : Hyx tys cA base adS Ex) : xall (fun b t => xOK l Dg clx tys cA flx ftx base adS GWx xyx xcx xnx xrx Ex codex bmx bpx b t) 2 209 512 codex_1110 :=
  And.intro (anx_1108 Hy) (anx_1109 Hy)
theorem anx_1111 (Hy : Hyx tys cA base adS Ex) : xall (fun b t => xOK l Dg clx tys cA flx ftx base adS GWx xyx xcx xnx xrx Ex codex bmx bpx b t) 1 465 1024 codex_1111 :=
  And.intro (okx_465 Hy) (okzx 1489)
theorem anx_1112 (Hy : Hyx tys cA base adS Ex) : xall (fun b t => xOK l Dg clx tys cA flx ftx base adS GWx xyx xcx xnx xrx Ex codex bmx bpx b t) 1 977 1024 codex_1112 :=
  And.intro (okx_977 Hy) (okzx 2001)
theorem anx_1113 (Hy : Hyx tys cA base adS Ex) : xall (fun b t => xOK l Dg clx tys cA flx ftx base adS GWx xyx xcx xnx xrx Ex codex bmx bpx b t) 2 465 512 codex_1113 :=
  And.intro (anx_1111 Hy) (anx_1112 Hy)
theorem anx_1114 (Hy : Hyx tys cA base adS Ex) : xall (fun b t => xOK l Dg clx tys cA flx ftx base adS GWx xyx xcx xnx xrx Ex codex bmx bpx b t) 3 209 256 codex_1114 :=
  And.intro (anx_1110 Hy) (anx_1113 Hy)
theorem anx_1115 (Hy : Hyx tys cA base adS Ex) : xall (fun b t => xOK l Dg clx tys cA flx ftx base adS GWx xyx xcx xnx xrx Ex codex bmx bpx b t) 4 81 128 codex_1115 :=
  And.intro (anx_1107 Hy) (anx_1114 Hy)
theorem anx_1116 (Hy : Hyx tys cA base adS Ex) : xall (fun b t => xOK l Dg clx tys cA flx ftx base adS GWx xyx xcx xnx xrx Ex codex bmx bpx b t) 5 17 64 codex_1116 :=
  And.intro (anx_1100 Hy) (anx_1115 Hy)
theorem anx_1117 (Hy : Hyx tys cA base adS Ex) : xall (fun b t => xOK l Dg clx tys cA flx ftx base adS GWx xyx xcx xnx xrx Ex codex bmx bpx b t) 1 49 1024 codex_1117 :=
  And.intro (okx_49 Hy) (okx_1073 Hy)
theorem anx_1118 (Hy : Hyx tys cA base adS Ex) : xall (fun b t => xOK l Dg clx tys cA flx ftx base adS GWx xyx xcx xnx xrx Ex codex bmx bpx b t) 1 561 1024 codex_1118 :=
  And.intro (okx_561 Hy) (okzx 1585)
theorem anx_1119 (Hy : Hyx tys cA base adS Ex) : xall (fun b t => xOK l Dg clx tys cA flx ftx base adS GWx xyx xcx xnx xrx Ex codex bmx bpx b t) 2 49 512 codex_1119 :=
  And.intro (anx_1117 Hy) (anx_1118 Hy)
theorem anx_1120 (Hy : Hyx tys cA base adS Ex) : xall (fun b t => xOK l Dg clx tys cA flx ftx base adS GWx xyx xcx xnx xrx Ex codex bmx bpx b t) 1 305 1024 codex_1120 :=
  And.intro (okx_305 Hy) (okzx 1329)
theorem anx_1121 (Hy : Hyx tys cA base adS Ex) : xall (fun b t => xOK l Dg clx tys cA flx ftx base adS GWx xyx xcx xnx xrx Ex codex bmx bpx b t) 1 817 1024 codex_1121 :=
  And.intro (okx_817 Hy) (okzx 1841)
theorem anx_1122 (Hy : Hyx tys cA base adS Ex) : xall (fun b t => xOK l Dg clx tys cA flx ftx base adS GWx xyx xcx xnx xrx Ex codex bmx bpx b t) 2 305 512 codex_1122 :=
  And.intro (anx_1120 Hy) (anx_1121 Hy)
theorem anx_1123 (Hy : Hyx tys cA base adS Ex) : xall (fun b t => xOK l Dg clx tys cA flx ftx base adS GWx xyx xcx xnx xrx Ex codex bmx bpx b t) 3 49 256 codex_1123 :=
  And.intro (anx_1119 Hy) (anx_1122 Hy)
theorem anx_1124 (Hy : Hyx tys cA base adS Ex) : xall (fun b t => xOK l Dg clx tys cA flx ftx base adS GWx xyx xcx xnx xrx Ex codex bmx bpx b t) 1 177 1024 codex_1124 :=
  And.intro (okx_177 Hy) (okzx 1201)
theorem anx_1125 (Hy : Hyx tys cA base adS Ex) : xall (fun b t => xOK l Dg clx tys cA flx ftx base adS GWx xyx xcx xnx xrx Ex codex bmx bpx b t) 1 689 1024 codex_1125 :=
  And.intro (okx_689 Hy) (okzx 1713)
theorem anx_1126 (Hy : Hyx tys cA base adS Ex) : xall (fun b t => xOK l Dg clx tys cA flx ftx base adS GWx xyx xcx xnx xrx Ex codex bmx bpx b t) 2 177 512 codex_1126 :=
  And.intro (anx_1124 Hy) (anx_1125 Hy)
theorem anx_1127 (Hy : Hyx tys cA base adS Ex) : xall (fun b t => xOK l Dg clx tys cA flx ftx base adS GWx xyx xcx xnx xrx Ex codex bmx bpx b t) 1 433 1024 codex_1127 :=
  And.intro (okx_433 Hy) (okzx 1457)
theorem anx_1128 (Hy : Hyx tys cA base adS Ex) : xall (fun b t => xOK l Dg clx tys cA flx ftx base adS GWx xyx xcx xnx xrx Ex codex bmx bpx b t) 1 945 1024 codex_1128 :=
  And.intro (okx_945 Hy) (okzx 1969)
theorem anx_1129 (Hy : Hyx tys cA base adS Ex) : xall (fun b t => xOK l Dg clx tys cA flx ftx base adS GWx xyx xcx xnx xrx Ex codex bmx bpx b t) 2 433 512 codex_1129 :=
  And.intro (anx_1127 Hy) (anx_1128 Hy)
theorem anx_1130 (Hy : Hyx tys cA base adS Ex) : xall (fun b t => xOK l Dg clx tys cA flx ftx base adS GWx xyx xcx xnx xrx Ex codex bmx bpx b t) 3 177 256 codex_1130 :=
  And.intro (anx_1126 Hy) (anx_1129 Hy)
theorem anx_1131 (Hy : Hyx tys cA base adS Ex) : xall (fun b t => xOK l Dg clx tys cA flx ftx base adS GWx xyx xcx xnx xrx Ex codex bmx bpx b t) 4 49 128 codex_1131 :=
  And.intro (anx_1123 Hy) (anx_1130 Hy)
theorem anx_1132 (Hy : Hyx tys cA base adS Ex) : xall (fun b t => xOK l Dg clx tys cA flx ftx base adS GWx xyx xcx xnx xrx Ex codex bmx bpx b t) 1 113 1024 codex_1132 :=
  And.intro (okx_113 Hy) (okx_1137 Hy)
theorem anx_1133 (Hy : Hyx tys cA base adS Ex) : xall (fun b t => xOK l Dg clx tys cA flx ftx base adS GWx xyx xcx xnx xrx Ex codex bmx bpx b t) 1 625 1024 codex_1133 :=
  And.intro (okx_625 Hy) (okzx 1649)
theorem anx_1134 (Hy : Hyx tys cA base adS Ex) : xall (fun b t => xOK l Dg clx tys cA flx ftx base adS GWx xyx xcx xnx xrx Ex codex bmx bpx b t) 2 113 512 codex_1134 :=
  And.intro (anx_1132 Hy) (anx_1133 Hy)
theorem anx_1135 (Hy : Hyx tys cA base adS Ex) : xall (fun b t => xOK l Dg clx tys cA flx ftx base adS GWx xyx xcx xnx xrx Ex codex bmx bpx b t) 1 369 1024 codex_1135 :=
  And.intro (okx_369 Hy) (okzx 1393)
theorem anx_1136 (Hy : Hyx tys cA base adS Ex) : xall (fun b t => xOK l Dg clx tys cA flx ftx base adS GWx xyx xcx xnx xrx Ex codex bmx bpx b t) 1 881 1024 codex_1136 :=
  And.intro (okx_881 Hy) (okzx 1905)
theorem anx_1137 (Hy : Hyx tys cA base adS Ex) : xall (fun b t => xOK l Dg clx tys cA flx ftx base adS GWx xyx xcx xnx xrx Ex codex bmx bpx b t) 2 369 512 codex_1137 :=
  And.intro (anx_1135 Hy) (anx_1136 Hy)
theorem anx_1138 (Hy : Hyx tys cA base adS Ex) : xall (fun b t => xOK l Dg clx tys cA flx ftx base adS GWx xyx xcx xnx xrx Ex codex bmx bpx b t) 3 113 256 codex_1138 :=
  And.intro (anx_1134 Hy) (anx_1137 Hy)
theorem anx_1139 (Hy : Hyx tys cA base adS Ex) : xall (fun b t => xOK l Dg clx tys cA flx ftx base adS GWx xyx xcx xnx xrx Ex codex bmx bpx b t) 1 241 1024 codex_1139 :=
  And.intro (okx_241 Hy) (okzx 1265)
theorem anx_1140 (Hy : Hyx tys cA base adS Ex) : xall (fun b t => xOK l Dg clx tys cA flx ftx base adS GWx xyx xcx xnx xrx Ex codex bmx bpx b t) 1 753 1024 codex_1140 :=
  And.intro (okx_753 Hy) (okzx 1777)
theorem anx_1141 (Hy : Hyx tys cA base adS Ex) : xall (fun b t => xOK l Dg clx tys cA flx ftx base adS GWx xyx xcx xnx xrx Ex codex bmx bpx b t) 2 241 512 codex_1141 :=
  And.intro (anx_1139 Hy) (anx_1140 Hy)
theorem anx_1142 (Hy : Hyx tys cA base adS Ex) : xall (fun b t => xOK l Dg clx tys cA flx ftx base adS GWx xyx xcx xnx xrx Ex codex bmx bpx b t) 1 497 1024 codex_1142 :=
  And.intro (okx_497 Hy) (okzx 1521)
theorem anx_1143 (Hy : Hyx tys cA base adS Ex) : xall (fun b t => xOK l Dg clx tys cA flx ftx base adS GWx xyx xcx xnx xrx Ex codex bmx bpx b t) 1 1009 1024 codex_1143 :=
  And.intro (okx_1009 Hy) (okzx 2033)
theorem anx_1144 (Hy : Hyx tys cA base adS Ex) : xall (fun b t => xOK l Dg clx tys cA flx ftx base adS GWx xyx xcx xnx xrx Ex codex bmx bpx b t) 2 497 512 codex_1144 :=
  And.intro (anx_1142 Hy) (anx_1143 Hy)
theorem anx_1145 (Hy : Hyx tys cA base adS Ex) : xall (fun b t => xOK l Dg clx tys cA flx ftx base adS GWx xyx xcx xnx xrx Ex codex bmx bpx b t) 3 241 256 codex_1145 :=
  And.intro (anx_1141 Hy) (anx_1144 Hy)
theorem anx_1146 (Hy : Hyx tys cA base adS Ex) : xall (fun b t => xOK l Dg clx tys cA flx ftx base adS GWx xyx xcx xnx xrx Ex codex bmx bpx b t) 4 113 128 codex_1146 :=
  And.intro (anx_1138 Hy) (anx_1145 Hy)
theorem anx_1147 (Hy : Hyx tys cA base adS Ex) : xall (fun b t => xOK l Dg clx tys cA flx ftx base adS GWx xyx xcx xnx xrx Ex codex bmx bpx b t) 5 49 64 codex_1147 :=
  And.intro (anx_1131 Hy) (anx_1146 Hy)
theorem anx_1148 (Hy : Hyx tys cA base adS Ex) : xall (fun b t => xOK l Dg clx tys cA flx ftx base adS GWx xyx xcx xnx xrx Ex codex bmx bpx b t) 6 17 32 codex_1148 :=
  And.intro (anx_1116 Hy) (anx_1147 Hy)
theorem anx_1149 (Hy : Hyx tys cA base adS Ex) : xall (fun b t => xOK l Dg clx tys cA flx ftx base adS GWx xyx xcx xnx xrx Ex codex bmx bpx b t) 7 1 16 codex_1149 :=
  And.intro (anx_1085 Hy) (anx_1148 Hy)
theorem anx_1150 (Hy : Hyx tys cA base adS Ex) : xall (fun b t => xOK l Dg clx tys cA flx ftx base adS GWx xyx xcx xnx xrx Ex codex bmx bpx b t) 1 9 1024 codex_1150 :=
  And.intro (okx_9 Hy) (okx_1033 Hy)
theorem anx_1151 (Hy : Hyx tys cA base adS Ex) : xall (fun b t => xOK l Dg clx tys cA flx ftx base adS GWx xyx xcx xnx xrx Ex codex bmx bpx b t) 1 521 1024 codex_1151 :=
  And.intro (okx_521 Hy) (okzx 1545)
theorem anx_1152 (Hy : Hyx tys cA base adS Ex) : xall (fun b t => xOK l Dg clx tys cA flx ftx base adS GWx xyx xcx xnx xrx Ex codex bmx bpx b t) 2 9 512 codex_1152 :=
  And.intro (anx_1150 Hy) (anx_1151 Hy)
theorem anx_1153 (Hy : Hyx tys cA base adS Ex) : xall (fun b t => xOK l Dg clx tys cA flx ftx base adS GWx xyx xcx xnx xrx Ex codex bmx bpx b t) 1 265 1024 codex_1153 :=
  And.intro (okx_265 Hy) (okzx 1289)
theorem anx_1154 (Hy : Hyx tys cA base adS Ex) : xall (fun b t => xOK l Dg clx tys cA flx ftx base adS GWx xyx xcx xnx xrx Ex codex bmx bpx b t) 1 777 1024 codex_1154 :=
  And.intro (okx_777 Hy) (okzx 1801)
theorem anx_1155 (Hy : Hyx tys cA base adS Ex) : xall (fun b t => xOK l Dg clx tys cA flx ftx base adS GWx xyx xcx xnx xrx Ex codex bmx bpx b t) 2 265 512 codex_1155 :=
  And.intro (anx_1153 Hy) (anx_1154 Hy)
theorem anx_1156 (Hy : Hyx tys cA base adS Ex) : xall (fun b t => xOK l Dg clx tys cA flx ftx base adS GWx xyx xcx xnx xrx Ex codex bmx bpx b t) 3 9 256 codex_1156 :=
  And.intro (anx_1152 Hy) (anx_1155 Hy)
theorem anx_1157 (Hy : Hyx tys cA base adS Ex) : xall (fun b t => xOK l Dg clx tys cA flx ftx base adS GWx xyx xcx xnx xrx Ex codex bmx bpx b t) 1 137 1024 codex_1157 :=
  And.intro (okx_137 Hy) (okx_1161 Hy)
theorem anx_1158 (Hy : Hyx tys cA base adS Ex) : xall (fun b t => xOK l Dg clx tys cA flx ftx base adS GWx xyx xcx xnx xrx Ex codex bmx bpx b t) 1 649 1024 codex_1158 :=
  And.intro (okx_649 Hy) (okzx 1673)
theorem anx_1159 (Hy : Hyx tys cA base adS Ex) : xall (fun b t => xOK l Dg clx tys cA flx ftx base adS GWx xyx xcx xnx xrx Ex codex bmx bpx b t) 2 137 512 codex_1159 :=
  And.intro (anx_1157 Hy) (anx_1158 Hy)
theorem anx_1160 (Hy : Hyx tys cA base adS Ex) : xall (fun b t => xOK l Dg clx tys cA flx ftx base adS GWx xyx xcx xnx xrx Ex codex bmx bpx b t) 1 393 1024 codex_1160 :=
  And.intro (okx_393 Hy) (okzx 1417)
theorem anx_1161 (Hy : Hyx tys cA base adS Ex) : xall (fun b t => xOK l Dg clx tys cA flx ftx base adS GWx xyx xcx xnx xrx Ex codex bmx bpx b t) 1 905 1024 codex_1161 :=
  And.intro (okx_905 Hy) (okzx 1929)
theorem anx_1162 (Hy : Hyx tys cA base adS Ex) : xall (fun b t => xOK l Dg clx tys cA flx ftx base adS GWx xyx xcx xnx xrx Ex codex bmx bpx b t) 2 393 512 codex_1162 :=
  And.intro (anx_1160 Hy) (anx_1161 Hy)
theorem anx_1163 (Hy : Hyx tys cA base adS Ex) : xall (fun b t => xOK l Dg clx tys cA flx ftx base adS GWx xyx xcx xnx xrx Ex codex bmx bpx b t) 3 137 256 codex_1163 :=
  And.intro (anx_1159 Hy) (anx_1162 Hy)
theorem anx_1164 (Hy : Hyx tys cA base adS Ex) : xall (fun b t => xOK l Dg clx tys cA flx ftx base adS GWx xyx xcx xnx xrx Ex codex bmx bpx b t) 4 9 128 codex_1164 :=
  And.intro (anx_1156 Hy) (anx_1163 Hy)
theorem anx_1165 (Hy : Hyx tys cA base adS Ex) : xall (fun b t => xOK l Dg clx tys cA flx ftx base adS GWx xyx xcx xnx xrx Ex codex bmx bpx b t) 1 73 1024 codex_1165 :=
  And.intro (okx_73 Hy) (okx_1097 Hy)
theorem anx_1166 (Hy : Hyx tys cA base adS Ex) : xall (fun b t => xOK l Dg clx tys cA flx ftx base adS GWx xyx xcx xnx xrx Ex codex bmx bpx b t) 1 585 1024 codex_1166 :=
  And.intro (okx_585 Hy) (okzx 1609)
theorem anx_1167 (Hy : Hyx tys cA base adS Ex) : xall (fun b t => xOK l Dg clx tys cA flx ftx base adS GWx xyx xcx xnx xrx Ex codex bmx bpx b t) 2 73 512 codex_1167 :=
  And.intro (anx_1165 Hy) (anx_1166 Hy)
theorem anx_1168 (Hy : Hyx tys cA base adS Ex) : xall (fun b t => xOK l Dg clx tys cA flx ftx base adS GWx xyx xcx xnx xrx Ex codex bmx bpx b t) 1 329 1024 codex_1168 :=
  And.intro (okx_329 Hy) (okzx 1353)
theorem anx_1169 (Hy : Hyx tys cA base adS Ex) : xall (fun b t => xOK l Dg clx tys cA flx ftx base adS GWx xyx xcx xnx xrx Ex codex bmx bpx b t) 1 841 1024 codex_1169 :=
  And.intro (okx_841 Hy) (okzx 1865)
theorem anx_1170 (Hy : Hyx tys cA base adS Ex) : xall (fun b t => xOK l Dg clx tys cA flx ftx base adS GWx xyx xcx xnx xrx Ex codex bmx bpx b t) 2 329 512 codex_1170 :=
  And.intro (anx_1168 Hy) (anx_1169 Hy)
theorem anx_1171 (Hy : Hyx tys cA base adS Ex) : xall (fun b t => xOK l Dg clx tys cA flx ftx base adS GWx xyx xcx xnx xrx Ex codex bmx bpx b t) 3 73 256 codex_1171 :=
  And.intro (anx_1167 Hy) (anx_1170 Hy)
theorem anx_1172 (Hy : Hyx tys cA base adS Ex) : xall (fun b t => xOK l Dg clx tys cA flx ftx base adS GWx xyx xcx xnx xrx Ex codex bmx bpx b t) 1 201 1024 codex_1172 :=
  And.intro (okx_201 Hy) (okzx 1225)
theorem anx_1173 (Hy : Hyx tys cA base adS Ex) : xall (fun b t => xOK l Dg clx tys cA flx ftx base adS GWx xyx xcx xnx xrx Ex codex bmx bpx b t) 1 713 1024 codex_1173 :=
  And.intro (okx_713 Hy) (okzx 1737)
theorem anx_1174 (Hy : Hyx tys cA base adS Ex) : xall (fun b t => xOK l Dg clx tys cA flx ftx base adS GWx xyx xcx xnx xrx Ex codex bmx bpx b t) 2 201 512 codex_1174 :=
  And.intro (anx_1172 Hy) (anx_1173 Hy)
theorem anx_1175 (Hy : Hyx tys cA base adS Ex) : xall (fun b t => xOK l Dg clx tys cA flx ftx base adS GWx xyx xcx xnx xrx Ex codex bmx bpx b t) 1 457 1024 codex_1175 :=
  And.intro (okx_457 Hy) (okzx 1481)
theorem anx_1176 (Hy : Hyx tys cA base adS Ex) : xall (fun b t => xOK l Dg clx tys cA flx ftx base adS GWx xyx xcx xnx xrx Ex codex bmx bpx b t) 1 969 1024 codex_1176 :=
  And.intro (okx_969 Hy) (okzx 1993)
theorem anx_1177 (Hy : Hyx tys cA base adS Ex) : xall (fun b t => xOK l Dg clx tys cA flx ftx base adS GWx xyx xcx xnx xrx Ex codex bmx bpx b t) 2 457 512 codex_1177 :=
  And.intro (anx_1175 Hy) (anx_1176 Hy)
theorem anx_1178 (Hy : Hyx tys cA base adS Ex) : xall (fun b t => xOK l Dg clx tys cA flx ftx base adS GWx xyx xcx xnx xrx Ex codex bmx bpx b t) 3 201 256 codex_1178 :=
  And.intro (anx_1174 Hy) (anx_1177 Hy)
theorem anx_1179 (Hy : Hyx tys cA base adS Ex) : xall (fun b t => xOK l Dg clx tys cA flx ftx base adS GWx xyx xcx xnx xrx Ex codex bmx bpx b t) 4 73 128 codex_1179 :=
  And.intro (anx_1171 Hy) (anx_1178 Hy)
theorem anx_1180 (Hy : Hyx tys cA base adS Ex) : xall (fun b t => xOK l Dg clx tys cA flx ftx base adS GWx xyx xcx xnx xrx Ex codex bmx bpx b t) 5 9 64 codex_1180 :=
  And.intro (anx_1164 Hy) (anx_1179 Hy)
theorem anx_1181 (Hy : Hyx tys cA base adS Ex) : xall (fun b t => xOK l Dg clx tys cA flx ftx base adS GWx xyx xcx xnx xrx Ex codex bmx bpx b t) 1 41 1024 codex_1181 :=
  And.intro (okx_41 Hy) (okx_1065 Hy)
theorem anx_1182 (Hy : Hyx tys cA base adS Ex) : xall (fun b t => xOK l Dg clx tys cA flx ftx base adS GWx xyx xcx xnx xrx Ex codex bmx bpx b t) 1 553 1024 codex_1182 :=
  And.intro (okx_553 Hy) (okzx 1577)
theorem anx_1183 (Hy : Hyx tys cA base adS Ex) : xall (fun b t => xOK l Dg clx tys cA flx ftx base adS GWx xyx xcx xnx xrx Ex codex bmx bpx b t) 2 41 512 codex_1183 :=
  And.intro (anx_1181 Hy) (anx_1182 Hy)
theorem anx_1184 (Hy : Hyx tys cA base adS Ex) : xall (fun b t => xOK l Dg clx tys cA flx ftx base adS GWx xyx xcx xnx xrx Ex codex bmx bpx b t) 1 297 1024 codex_1184 :=
  And.intro (okx_297 Hy) (okzx 1321)
theorem anx_1185 (Hy : Hyx tys cA base adS Ex) : xall (fun b t => xOK l Dg clx tys cA flx ftx base adS GWx xyx xcx xnx xrx Ex codex bmx bpx b t) 1 809 1024 codex_1185 :=
  And.intro (okx_809 Hy) (okzx 1833)
theorem anx_1186 (Hy : Hyx tys cA base adS Ex) : xall (fun b t => xOK l Dg clx tys cA flx ftx base adS GWx xyx xcx xnx xrx Ex codex bmx bpx b t) 2 297 512 codex_1186 :=
  And.intro (anx_1184 Hy) (anx_1185 Hy)
theorem anx_1187 (Hy : Hyx tys cA base adS Ex) : xall (fun b t => xOK l Dg clx tys cA flx ftx base adS GWx xyx xcx xnx xrx Ex codex bmx bpx b t) 3 41 256 codex_1187 :=
  And.intro (anx_1183 Hy) (anx_1186 Hy)
theorem anx_1188 (Hy : Hyx tys cA base adS Ex) : xall (fun b t => xOK l Dg clx tys cA flx ftx base adS GWx xyx xcx xnx xrx Ex codex bmx bpx b t) 1 169 1024 codex_1188 :=
  And.intro (okx_169 Hy) (okx_1193 Hy)
theorem anx_1189 (Hy : Hyx tys cA base adS Ex) : xall (fun b t => xOK l Dg clx tys cA flx ftx base adS GWx xyx xcx xnx xrx Ex codex bmx bpx b t) 1 681 1024 codex_1189 :=
  And.intro (okx_681 Hy) (okzx 1705)
theorem anx_1190 (Hy : Hyx tys cA base adS Ex) : xall (fun b t => xOK l Dg clx tys cA flx ftx base adS GWx xyx xcx xnx xrx Ex codex bmx bpx b t) 2 169 512 codex_1190 :=
  And.intro (anx_1188 Hy) (anx_1189 Hy)
theorem anx_1191 (Hy : Hyx tys cA base adS Ex) : xall (fun b t => xOK l Dg clx tys cA flx ftx base adS GWx xyx xcx xnx xrx Ex codex bmx bpx b t) 1 425 1024 codex_1191 :=
  And.intro (okx_425 Hy) (okzx 1449)
theorem anx_1192 (Hy : Hyx tys cA base adS Ex) : xall (fun b t => xOK l Dg clx tys cA flx ftx base adS GWx xyx xcx xnx xrx Ex codex bmx bpx b t) 1 937 1024 codex_1192 :=
  And.intro (okx_937 Hy) (okzx 1961)
theorem anx_1193 (Hy : Hyx tys cA base adS Ex) : xall (fun b t => xOK l Dg clx tys cA flx ftx base adS GWx xyx xcx xnx xrx Ex codex bmx bpx b t) 2 425 512 codex_1193 :=
  And.intro (anx_1191 Hy) (anx_1192 Hy)
theorem anx_1194 (Hy : Hyx tys cA base adS Ex) : xall (fun b t => xOK l Dg clx tys cA flx ftx base adS GWx xyx xcx xnx xrx Ex codex bmx bpx b t) 3 169 256 codex_1194 :=
  And.intro (anx_1190 Hy) (anx_1193 Hy)
theorem anx_1195 (Hy : Hyx tys cA base adS Ex) : xall (fun b t => xOK l Dg clx tys cA flx ftx base adS GWx xyx xcx xnx xrx Ex codex bmx bpx b t) 4 41 128 codex_1195 :=
  And.intro (anx_1187 Hy) (anx_1194 Hy)
theorem anx_1196 (Hy : Hyx tys cA base adS Ex) : xall (fun b t => xOK l Dg clx tys cA flx ftx base adS GWx xyx xcx xnx xrx Ex codex bmx bpx b t) 1 105 1024 codex_1196 :=
  And.intro (okx_105 Hy) (okx_1129 Hy)
theorem anx_1197 (Hy : Hyx tys cA base adS Ex) : xall (fun b t => xOK l Dg clx tys cA flx ftx base adS GWx xyx xcx xnx xrx Ex codex bmx bpx b t) 1 617 1024 codex_1197 :=
  And.intro (okx_617 Hy) (okzx 1641)
theorem anx_1198 (Hy : Hyx tys cA base adS Ex) : xall (fun b t => xOK l Dg clx tys cA flx ftx base adS GWx xyx xcx xnx xrx Ex codex bmx bpx b t) 2 105 512 codex_1198 :=
  And.intro (anx_1196 Hy) (anx_1197 Hy)
theorem anx_1199 (Hy : Hyx tys cA base adS Ex) : xall (fun b t => xOK l Dg clx tys cA flx ftx base adS GWx xyx xcx xnx xrx Ex codex bmx bpx b t) 1 361 1024 codex_1199 :=
  And.intro (okx_361 Hy) (okzx 1385)
theorem anx_1200 (Hy : Hyx tys cA base adS Ex) : xall (fun b t => xOK l Dg clx tys cA flx ftx base adS GWx xyx xcx xnx xrx Ex codex bmx bpx b t) 1 873 1024 codex_1200 :=
  And.intro (okx_873 Hy) (okzx 1897)
theorem anx_1201 (Hy : Hyx tys cA base adS Ex) : xall (fun b t => xOK l Dg clx tys cA flx ftx base adS GWx xyx xcx xnx xrx Ex codex bmx bpx b t) 2 361 512 codex_1201 :=
  And.intro (anx_1199 Hy) (anx_1200 Hy)
theorem anx_1202 (Hy : Hyx tys cA base adS Ex) : xall (fun b t => xOK l Dg clx tys cA flx ftx base adS GWx xyx xcx xnx xrx Ex codex bmx bpx b t) 3 105 256 codex_1202 :=
  And.intro (anx_1198 Hy) (anx_1201 Hy)
theorem anx_1203 (Hy : Hyx tys cA base adS Ex) : xall (fun b t => xOK l Dg clx tys cA flx ftx base adS GWx xyx xcx xnx xrx Ex codex bmx bpx b t) 1 233 1024 codex_1203 :=
  And.intro (okx_233 Hy) (okzx 1257)
theorem anx_1204 (Hy : Hyx tys cA base adS Ex) : xall (fun b t => xOK l Dg clx tys cA flx ftx base adS GWx xyx xcx xnx xrx Ex codex bmx bpx b t) 1 745 1024 codex_1204 :=
  And.intro (okx_745 Hy) (okzx 1769)
theorem anx_1205 (Hy : Hyx tys cA base adS Ex) : xall (fun b t => xOK l Dg clx tys cA flx ftx base adS GWx xyx xcx xnx xrx Ex codex bmx bpx b t) 2 233 512 codex_1205 :=
  And.intro (anx_1203 Hy) (anx_1204 Hy)
theorem anx_1206 (Hy : Hyx tys cA base adS Ex) : xall (fun b t => xOK l Dg clx tys cA flx ftx base adS GWx xyx xcx xnx xrx Ex codex bmx bpx b t) 1 489 1024 codex_1206 :=
  And.intro (okx_489 Hy) (okzx 1513)
theorem anx_1207 (Hy : Hyx tys cA base adS Ex) : xall (fun b t => xOK l Dg clx tys cA flx ftx base adS GWx xyx xcx xnx xrx Ex codex bmx bpx b t) 1 1001 1024 codex_1207 :=
  And.intro (okx_1001 Hy) (okzx 2025)
theorem anx_1208 (Hy : Hyx tys cA base adS Ex) : xall (fun b t => xOK l Dg clx tys cA flx ftx base adS GWx xyx xcx xnx xrx Ex codex bmx bpx b t) 2 489 512 codex_1208 :=
  And.intro (anx_1206 Hy) (anx_1207 Hy)
theorem anx_1209 (Hy : Hyx tys cA base adS Ex) : xall (fun b t => xOK l Dg clx tys cA flx ftx base adS GWx xyx xcx xnx xrx Ex codex bmx bpx b t) 3 233 256 codex_1209 :=
  And.intro (anx_1205 Hy) (anx_1208 Hy)
theorem anx_1210 (Hy : Hyx tys cA base adS Ex) : xall (fun b t => xOK l Dg clx tys cA flx ftx base adS GWx xyx xcx xnx xrx Ex codex bmx bpx b t) 4 105 128 codex_1210 :=
  And.intro (anx_1202 Hy) (anx_1209 Hy)
theorem anx_1211 (Hy : Hyx tys cA base adS Ex) : xall (fun b t => xOK l Dg clx tys cA flx ftx base adS GWx xyx xcx xnx xrx Ex codex bmx bpx b t) 5 41 64 codex_1211 :=
  And.intro (anx_1195 Hy) (anx_1210 Hy)
theorem anx_1212 (Hy : Hyx tys cA base adS Ex) : xall (fun b t => xOK l Dg clx tys cA flx ftx base adS GWx xyx xcx xnx xrx Ex codex bmx bpx b t) 6 9 32 codex_1212 :=
  And.intro (anx_1180 Hy) (anx_1211 Hy)
theorem anx_1213 (Hy : Hyx tys cA base adS Ex) : xall (fun b t => xOK l Dg clx tys cA flx ftx base adS GWx xyx xcx xnx xrx Ex codex bmx bpx b t) 1 25 1024 codex_1213 :=
  And.intro (okx_25 Hy) (okx_1049 Hy)
theorem anx_1214 (Hy : Hyx tys cA base adS Ex) : xall (fun b t => xOK l Dg clx tys cA flx ftx base adS GWx xyx xcx xnx xrx Ex codex bmx bpx b t) 1 537 1024 codex_1214 :=
  And.intro (okx_537 Hy) (okzx 1561)
theorem anx_1215 (Hy : Hyx tys cA base adS Ex) : xall (fun b t => xOK l Dg clx tys cA flx ftx base adS GWx xyx xcx xnx xrx Ex codex bmx bpx b t) 2 25 512 codex_1215 :=
  And.intro (anx_1213 Hy) (anx_1214 Hy)
theorem anx_1216 (Hy : Hyx tys cA base adS Ex) : xall (fun b t => xOK l Dg clx tys cA flx ftx base adS GWx xyx xcx xnx xrx Ex codex bmx bpx b t) 1 281 1024 codex_1216 :=
  And.intro (okx_281 Hy) (okzx 1305)
theorem anx_1217 (Hy : Hyx tys cA base adS Ex) : xall (fun b t => xOK l Dg clx tys cA flx ftx base adS GWx xyx xcx xnx xrx Ex codex bmx bpx b t) 1 793 1024 codex_1217 :=
  And.intro (okx_793 Hy) (okzx 1817)
theorem anx_1218 (Hy : Hyx tys cA base adS Ex) : xall (fun b t => xOK l Dg clx tys cA flx ftx base adS GWx xyx xcx xnx xrx Ex codex bmx bpx b t) 2 281 512 codex_1218 :=
  And.intro (anx_1216 Hy) (anx_1217 Hy)
theorem anx_1219 (Hy : Hyx tys cA base adS Ex) : xall (fun b t => xOK l Dg clx tys cA flx ftx base adS GWx xyx xcx xnx xrx Ex codex bmx bpx b t) 3 25 256 codex_1219 :=
  And.intro (anx_1215 Hy) (anx_1218 Hy)
theorem anx_1220 (Hy : Hyx tys cA base adS Ex) : xall (fun b t => xOK l Dg clx tys cA flx ftx base adS GWx xyx xcx xnx xrx Ex codex bmx bpx b t) 1 153 1024 codex_1220 :=
  And.intro (okx_153 Hy) (okx_1177 Hy)
theorem anx_1221 (Hy : Hyx tys cA base adS Ex) : xall (fun b t => xOK l Dg clx tys cA flx ftx base adS GWx xyx xcx xnx xrx Ex codex bmx bpx b t) 1 665 1024 codex_1221 :=
  And.intro (okx_665 Hy) (okzx 1689)
theorem anx_1222 (Hy : Hyx tys cA base adS Ex) : xall (fun b t => xOK l Dg clx tys cA flx ftx base adS GWx xyx xcx xnx xrx Ex codex bmx bpx b t) 2 153 512 codex_1222 :=
  And.intro (anx_1220 Hy) (anx_1221 Hy)
theorem anx_1223 (Hy : Hyx tys cA base adS Ex) : xall (fun b t => xOK l Dg clx tys cA flx ftx base adS GWx xyx xcx xnx xrx Ex codex bmx bpx b t) 1 409 1024 codex_1223 :=
  And.intro (okx_409 Hy) (okzx 1433)
theorem anx_1224 (Hy : Hyx tys cA base adS Ex) : xall (fun b t => xOK l Dg clx tys cA flx ftx base adS GWx xyx xcx xnx xrx Ex codex bmx bpx b t) 1 921 1024 codex_1224 :=
  And.intro (okx_921 Hy) (okzx 1945)
theorem anx_1225 (Hy : Hyx tys cA base adS Ex) : xall (fun b t => xOK l Dg clx tys cA flx ftx base adS GWx xyx xcx xnx xrx Ex codex bmx bpx b t) 2 409 512 codex_1225 :=
  And.intro (anx_1223 Hy) (anx_1224 Hy)
theorem anx_1226 (Hy : Hyx tys cA base adS Ex) : xall (fun b t => xOK l Dg clx tys cA flx ftx base adS GWx xyx xcx xnx xrx Ex codex bmx bpx b t) 3 153 256 codex_1226 :=
  And.intro (anx_1222 Hy) (anx_1225 Hy)
theorem anx_1227 (Hy : Hyx tys cA base adS Ex) : xall (fun b t => xOK l Dg clx tys cA flx ftx base adS GWx xyx xcx xnx xrx Ex codex bmx bpx b t) 4 25 128 codex_1227 :=
  And.intro (anx_1219 Hy) (anx_1226 Hy)
theorem anx_1228 (Hy : Hyx tys cA base adS Ex) : xall (fun b t => xOK l Dg clx tys cA flx ftx base adS GWx xyx xcx xnx xrx Ex codex bmx bpx b t) 1 89 1024 codex_1228 :=
  And.intro (okx_89 Hy) (okx_1113 Hy)
theorem anx_1229 (Hy : Hyx tys cA base adS Ex) : xall (fun b t => xOK l Dg clx tys cA flx ftx base adS GWx xyx xcx xnx xrx Ex codex bmx bpx b t) 1 601 1024 codex_1229 :=
  And.intro (okx_601 Hy) (okzx 1625)
theorem anx_1230 (Hy : Hyx tys cA base adS Ex) : xall (fun b t => xOK l Dg clx tys cA flx ftx base adS GWx xyx xcx xnx xrx Ex codex bmx bpx b t) 2 89 512 codex_1230 :=
  And.intro (anx_1228 Hy) (anx_1229 Hy)
theorem anx_1231 (Hy : Hyx tys cA base adS Ex) : xall (fun b t => xOK l Dg clx tys cA flx ftx base adS GWx xyx xcx xnx xrx Ex codex bmx bpx b t) 1 345 1024 codex_1231 :=
  And.intro (okx_345 Hy) (okzx 1369)
theorem anx_1232 (Hy : Hyx tys cA base adS Ex) : xall (fun b t => xOK l Dg clx tys cA flx ftx base adS GWx xyx xcx xnx xrx Ex codex bmx bpx b t) 1 857 1024 codex_1232 :=
  And.intro (okx_857 Hy) (okzx 1881)
theorem anx_1233 (Hy : Hyx tys cA base adS Ex) : xall (fun b t => xOK l Dg clx tys cA flx ftx base adS GWx xyx xcx xnx xrx Ex codex bmx bpx b t) 2 345 512 codex_1233 :=
  And.intro (anx_1231 Hy) (anx_1232 Hy)
theorem anx_1234 (Hy : Hyx tys cA base adS Ex) : xall (fun b t => xOK l Dg clx tys cA flx ftx base adS GWx xyx xcx xnx xrx Ex codex bmx bpx b t) 3 89 256 codex_1234 :=
  And.intro (anx_1230 Hy) (anx_1233 Hy)
theorem anx_1235 (Hy : Hyx tys cA base adS Ex) : xall (fun b t => xOK l Dg clx tys cA flx ftx base adS GWx xyx xcx xnx xrx Ex codex bmx bpx b t) 1 217 1024 codex_1235 :=
  And.intro (okx_217 Hy) (okzx 1241)
theorem anx_1236 (Hy : Hyx tys cA base adS Ex) : xall (fun b t => xOK l Dg clx tys cA flx ftx base adS GWx xyx xcx xnx xrx Ex codex bmx bpx b t) 1 729 1024 codex_1236 :=
  And.intro (okx_729 Hy) (okzx 1753)
theorem anx_1237 (Hy : Hyx tys cA base adS Ex) : xall (fun b t => xOK l Dg clx tys cA flx ftx base adS GWx xyx xcx xnx xrx Ex codex bmx bpx b t) 2 217 512 codex_1237 :=
  And.intro (anx_1235 Hy) (anx_1236 Hy)
theorem anx_1238 (Hy : Hyx tys cA base adS Ex) : xall (fun b t => xOK l Dg clx tys cA flx ftx base adS GWx xyx xcx xnx xrx Ex codex bmx bpx b t) 1 473 1024 codex_1238 :=
  And.intro (okx_473 Hy) (okzx 1497)
theorem anx_1239 (Hy : Hyx tys cA base adS Ex) : xall (fun b t => xOK l Dg clx tys cA flx ftx base adS GWx xyx xcx xnx xrx Ex codex bmx bpx b t) 1 985 1024 codex_1239 :=
  And.intro (okx_985 Hy) (okzx 2009)
theorem anx_1240 (Hy : Hyx tys cA base adS Ex) : xall (fun b t => xOK l Dg clx tys cA flx ftx base adS GWx xyx xcx xnx xrx Ex codex bmx bpx b t) 2 473 512 codex_1240 :=
  And.intro (anx_1238 Hy) (anx_1239 Hy)
theorem anx_1241 (Hy : Hyx tys cA base adS Ex) : xall (fun b t => xOK l Dg clx tys cA flx ftx base adS GWx xyx xcx xnx xrx Ex codex bmx bpx b t) 3 217 256 codex_1241 :=
  And.intro (anx_1237 Hy) (anx_1240 Hy)
theorem anx_1242 (Hy : Hyx tys cA base adS Ex) : xall (fun b t => xOK l Dg clx tys cA flx ftx base adS GWx xyx xcx xnx xrx Ex codex bmx bpx b t) 4 89 128 codex_1242 :=
  And.intro (anx_1234 Hy) (anx_1241 Hy)
theorem anx_1243 (Hy : Hyx tys cA base adS Ex) : xall (fun b t => xOK l Dg clx tys cA flx ftx base adS GWx xyx xcx xnx xrx Ex codex bmx bpx b t) 5 25 64 codex_1243 :=
  And.intro (anx_1227 Hy) (anx_1242 Hy)
theorem anx_1244 (Hy : Hyx tys cA base adS Ex) : xall (fun b t => xOK l Dg clx tys cA flx ftx base adS GWx xyx xcx xnx xrx Ex codex bmx bpx b t) 1 57 1024 codex_1244 :=
  And.intro (okx_57 Hy) (okx_1081 Hy)
theorem anx_1245 (Hy : Hyx tys cA base adS Ex) : xall (fun b t => xOK l Dg clx tys cA flx ftx base adS GWx xyx xcx xnx xrx Ex codex bmx bpx b t) 1 569 1024 codex_1245 :=
  And.intro (okx_569 Hy) (okzx 1593)
theorem anx_1246 (Hy : Hyx tys cA base adS Ex) : xall (fun b t => xOK l Dg clx tys cA flx ftx base adS GWx xyx xcx xnx xrx Ex codex bmx bpx b t) 2 57 512 codex_1246 :=
  And.intro (anx_1244 Hy) (anx_1245 Hy)
theorem anx_1247 (Hy : Hyx tys cA base adS Ex) : xall (fun b t => xOK l Dg clx tys cA flx ftx base adS GWx xyx xcx xnx xrx Ex codex bmx bpx b t) 1 313 1024 codex_1247 :=
  And.intro (okx_313 Hy) (okzx 1337)
theorem anx_1248 (Hy : Hyx tys cA base adS Ex) : xall (fun b t => xOK l Dg clx tys cA flx ftx base adS GWx xyx xcx xnx xrx Ex codex bmx bpx b t) 1 825 1024 codex_1248 :=
  And.intro (okx_825 Hy) (okzx 1849)
theorem anx_1249 (Hy : Hyx tys cA base adS Ex) : xall (fun b t => xOK l Dg clx tys cA flx ftx base adS GWx xyx xcx xnx xrx Ex codex bmx bpx b t) 2 313 512 codex_1249 :=
  And.intro (anx_1247 Hy) (anx_1248 Hy)
theorem anx_1250 (Hy : Hyx tys cA base adS Ex) : xall (fun b t => xOK l Dg clx tys cA flx ftx base adS GWx xyx xcx xnx xrx Ex codex bmx bpx b t) 3 57 256 codex_1250 :=
  And.intro (anx_1246 Hy) (anx_1249 Hy)
theorem anx_1251 (Hy : Hyx tys cA base adS Ex) : xall (fun b t => xOK l Dg clx tys cA flx ftx base adS GWx xyx xcx xnx xrx Ex codex bmx bpx b t) 1 185 1024 codex_1251 :=
  And.intro (okx_185 Hy) (okzx 1209)
theorem anx_1252 (Hy : Hyx tys cA base adS Ex) : xall (fun b t => xOK l Dg clx tys cA flx ftx base adS GWx xyx xcx xnx xrx Ex codex bmx bpx b t) 1 697 1024 codex_1252 :=
  And.intro (okx_697 Hy) (okzx 1721)
theorem anx_1253 (Hy : Hyx tys cA base adS Ex) : xall (fun b t => xOK l Dg clx tys cA flx ftx base adS GWx xyx xcx xnx xrx Ex codex bmx bpx b t) 2 185 512 codex_1253 :=
  And.intro (anx_1251 Hy) (anx_1252 Hy)
theorem anx_1254 (Hy : Hyx tys cA base adS Ex) : xall (fun b t => xOK l Dg clx tys cA flx ftx base adS GWx xyx xcx xnx xrx Ex codex bmx bpx b t) 1 441 1024 codex_1254 :=
  And.intro (okx_441 Hy) (okzx 1465)
theorem anx_1255 (Hy : Hyx tys cA base adS Ex) : xall (fun b t => xOK l Dg clx tys cA flx ftx base adS GWx xyx xcx xnx xrx Ex codex bmx bpx b t) 1 953 1024 codex_1255 :=
  And.intro (okx_953 Hy) (okzx 1977)
theorem anx_1256 (Hy : Hyx tys cA base adS Ex) : xall (fun b t => xOK l Dg clx tys cA flx ftx base adS GWx xyx xcx xnx xrx Ex codex bmx bpx b t) 2 441 512 codex_1256 :=
  And.intro (anx_1254 Hy) (anx_1255 Hy)
theorem anx_1257 (Hy : Hyx tys cA base adS Ex) : xall (fun b t => xOK l Dg clx tys cA flx ftx base adS GWx xyx xcx xnx xrx Ex codex bmx bpx b t) 3 185 256 codex_1257 :=
  And.intro (anx_1253 Hy) (anx_1256 Hy)
theorem anx_1258 (Hy : Hyx tys cA base adS Ex) : xall (fun b t => xOK l Dg clx tys cA flx ftx base adS GWx xyx xcx xnx xrx Ex codex bmx bpx b t) 4 57 128 codex_1258 :=
  And.intro (anx_1250 Hy) (anx_1257 Hy)
theorem anx_1259 (Hy : Hyx tys cA base adS Ex) : xall (fun b t => xOK l Dg clx tys cA flx ftx base adS GWx xyx xcx xnx xrx Ex codex bmx bpx b t) 1 121 1024 codex_1259 :=
  And.intro (okx_121 Hy) (okx_1145 Hy)
theorem anx_1260 (Hy : Hyx tys cA base adS Ex) : xall (fun b t => xOK l Dg clx tys cA flx ftx base adS GWx xyx xcx xnx xrx Ex codex bmx bpx b t) 1 633 1024 codex_1260 :=
  And.intro (okx_633 Hy) (okzx 1657)
theorem anx_1261 (Hy : Hyx tys cA base adS Ex) : xall (fun b t => xOK l Dg clx tys cA flx ftx base adS GWx xyx xcx xnx xrx Ex codex bmx bpx b t) 2 121 512 codex_1261 :=
  And.intro (anx_1259 Hy) (anx_1260 Hy)
theorem anx_1262 (Hy : Hyx tys cA base adS Ex) : xall (fun b t => xOK l Dg clx tys cA flx ftx base adS GWx xyx xcx xnx xrx Ex codex bmx bpx b t) 1 377 1024 codex_1262 :=
  And.intro (okx_377 Hy) (okzx 1401)
theorem anx_1263 (Hy : Hyx tys cA base adS Ex) : xall (fun b t => xOK l Dg clx tys cA flx ftx base adS GWx xyx xcx xnx xrx Ex codex bmx bpx b t) 1 889 1024 codex_1263 :=
  And.intro (okx_889 Hy) (okzx 1913)
theorem anx_1264 (Hy : Hyx tys cA base adS Ex) : xall (fun b t => xOK l Dg clx tys cA flx ftx base adS GWx xyx xcx xnx xrx Ex codex bmx bpx b t) 2 377 512 codex_1264 :=
  And.intro (anx_1262 Hy) (anx_1263 Hy)
theorem anx_1265 (Hy : Hyx tys cA base adS Ex) : xall (fun b t => xOK l Dg clx tys cA flx ftx base adS GWx xyx xcx xnx xrx Ex codex bmx bpx b t) 3 121 256 codex_1265 :=
  And.intro (anx_1261 Hy) (anx_1264 Hy)
theorem anx_1266 (Hy : Hyx tys cA base adS Ex) : xall (fun b t => xOK l Dg clx tys cA flx ftx base adS GWx xyx xcx xnx xrx Ex codex bmx bpx b t) 1 249 1024 codex_1266 :=
  And.intro (okx_249 Hy) (okzx 1273)
theorem anx_1267 (Hy : Hyx tys cA base adS Ex) : xall (fun b t => xOK l Dg clx tys cA flx ftx base adS GWx xyx xcx xnx xrx Ex codex bmx bpx b t) 1 761 1024 codex_1267 :=
  And.intro (okx_761 Hy) (okzx 1785)
theorem anx_1268 (Hy : Hyx tys cA base adS Ex) : xall (fun b t => xOK l Dg clx tys cA flx ftx base adS GWx xyx xcx xnx xrx Ex codex bmx bpx b t) 2 249 512 codex_1268 :=
  And.intro (anx_1266 Hy) (anx_1267 Hy)
theorem anx_1269 (Hy : Hyx tys cA base adS Ex) : xall (fun b t => xOK l Dg clx tys cA flx ftx base adS GWx xyx xcx xnx xrx Ex codex bmx bpx b t) 1 505 1024 codex_1269 :=
  And.intro (okx_505 Hy) (okzx 1529)
theorem anx_1270 (Hy : Hyx tys cA base adS Ex) : xall (fun b t => xOK l Dg clx tys cA flx ftx base adS GWx xyx xcx xnx xrx Ex codex bmx bpx b t) 1 1017 1024 codex_1270 :=
  And.intro (okx_1017 Hy) (okzx 2041)
theorem anx_1271 (Hy : Hyx tys cA base adS Ex) : xall (fun b t => xOK l Dg clx tys cA flx ftx base adS GWx xyx xcx xnx xrx Ex codex bmx bpx b t) 2 505 512 codex_1271 :=
  And.intro (anx_1269 Hy) (anx_1270 Hy)
theorem anx_1272 (Hy : Hyx tys cA base adS Ex) : xall (fun b t => xOK l Dg clx tys cA flx ftx base adS GWx xyx xcx xnx xrx Ex codex bmx bpx b t) 3 249 256 codex_1272 :=
  And.intro (anx_1268 Hy) (anx_1271 Hy)
theorem anx_1273 (Hy : Hyx tys cA base adS Ex) : xall (fun b t => xOK l Dg clx tys cA flx ftx base adS GWx xyx xcx xnx xrx Ex codex bmx bpx b t) 4 121 128 codex_1273 :=
  And.intro (anx_1265 Hy) (anx_1272 Hy)
theorem anx_1274 (Hy : Hyx tys cA base adS Ex) : xall (fun b t => xOK l Dg clx tys cA flx ftx base adS GWx xyx xcx xnx xrx Ex codex bmx bpx b t) 5 57 64 codex_1274 :=
  And.intro (anx_1258 Hy) (anx_1273 Hy)
theorem anx_1275 (Hy : Hyx tys cA base adS Ex) : xall (fun b t => xOK l Dg clx tys cA flx ftx base adS GWx xyx xcx xnx xrx Ex codex bmx bpx b t) 6 25 32 codex_1275 :=
  And.intro (anx_1243 Hy) (anx_1274 Hy)
theorem anx_1276 (Hy : Hyx tys cA base adS Ex) : xall (fun b t => xOK l Dg clx tys cA flx ftx base adS GWx xyx xcx xnx xrx Ex codex bmx bpx b t) 7 9 16 codex_1276 :=
  And.intro (anx_1212 Hy) (anx_1275 Hy)
theorem anx_1277 (Hy : Hyx tys cA base adS Ex) : xall (fun b t => xOK l Dg clx tys cA flx ftx base adS GWx xyx xcx xnx xrx Ex codex bmx bpx b t) 8 1 8 codex_1277 :=
  And.intro (anx_1149 Hy) (anx_1276 Hy)
theorem anx_1278 (Hy : Hyx tys cA base adS Ex) : xall (fun b t => xOK l Dg clx tys cA flx ftx base adS GWx xyx xcx xnx xrx Ex codex bmx bpx b t) 1 5 1024 codex_1278 :=
  And.intro (okx_5 Hy) (okx_1029 Hy)
theorem anx_1279 (Hy : Hyx tys cA base adS Ex) : xall (fun b t => xOK l Dg clx tys cA flx ftx base adS GWx xyx xcx xnx xrx Ex codex bmx bpx b t) 1 517 1024 codex_1279 :=
  And.intro (okx_517 Hy) (okzx 1541)
theorem anx_1280 (Hy : Hyx tys cA base adS Ex) : xall (fun b t => xOK l Dg clx tys cA flx ftx base adS GWx xyx xcx xnx xrx Ex codex bmx bpx b t) 2 5 512 codex_1280 :=
  And.intro (anx_1278 Hy) (anx_1279 Hy)
theorem anx_1281 (Hy : Hyx tys cA base adS Ex) : xall (fun b t => xOK l Dg clx tys cA flx ftx base adS GWx xyx xcx xnx xrx Ex codex bmx bpx b t) 1 261 1024 codex_1281 :=
  And.intro (okx_261 Hy) (okzx 1285)
theorem anx_1282 (Hy : Hyx tys cA base adS Ex) : xall (fun b t => xOK l Dg clx tys cA flx ftx base adS GWx xyx xcx xnx xrx Ex codex bmx bpx b t) 1 773 1024 codex_1282 :=
  And.intro (okx_773 Hy) (okzx 1797)
theorem anx_1283 (Hy : Hyx tys cA base adS Ex) : xall (fun b t => xOK l Dg clx tys cA flx ftx base adS GWx xyx xcx xnx xrx Ex codex bmx bpx b t) 2 261 512 codex_1283 :=
  And.intro (anx_1281 Hy) (anx_1282 Hy)
theorem anx_1284 (Hy : Hyx tys cA base adS Ex) : xall (fun b t => xOK l Dg clx tys cA flx ftx base adS GWx xyx xcx xnx xrx Ex codex bmx bpx b t) 3 5 256 codex_1284 :=
  And.intro (anx_1280 Hy) (anx_1283 Hy)
theorem anx_1285 (Hy : Hyx tys cA base adS Ex) : xall (fun b t => xOK l Dg clx tys cA flx ftx base adS GWx xyx xcx xnx xrx Ex codex bmx bpx b t) 1 133 1024 codex_1285 :=
  And.intro (okx_133 Hy) (okx_1157 Hy)
theorem anx_1286 (Hy : Hyx tys cA base adS Ex) : xall (fun b t => xOK l Dg clx tys cA flx ftx base adS GWx xyx xcx xnx xrx Ex codex bmx bpx b t) 1 645 1024 codex_1286 :=
  And.intro (okx_645 Hy) (okzx 1669)
theorem anx_1287 (Hy : Hyx tys cA base adS Ex) : xall (fun b t => xOK l Dg clx tys cA flx ftx base adS GWx xyx xcx xnx xrx Ex codex bmx bpx b t) 2 133 512 codex_1287 :=
  And.intro (anx_1285 Hy) (anx_1286 Hy)
theorem anx_1288 (Hy : Hyx tys cA base adS Ex) : xall (fun b t => xOK l Dg clx tys cA flx ftx base adS GWx xyx xcx xnx xrx Ex codex bmx bpx b t) 1 389 1024 codex_1288 :=
  And.intro (okx_389 Hy) (okzx 1413)
theorem anx_1289 (Hy : Hyx tys cA base adS Ex) : xall (fun b t => xOK l Dg clx tys cA flx ftx base adS GWx xyx xcx xnx xrx Ex codex bmx bpx b t) 1 901 1024 codex_1289 :=
  And.intro (okx_901 Hy) (okzx 1925)
theorem anx_1290 (Hy : Hyx tys cA base adS Ex) : xall (fun b t => xOK l Dg clx tys cA flx ftx base adS GWx xyx xcx xnx xrx Ex codex bmx bpx b t) 2 389 512 codex_1290 :=
  And.intro (anx_1288 Hy) (anx_1289 Hy)
theorem anx_1291 (Hy : Hyx tys cA base adS Ex) : xall (fun b t => xOK l Dg clx tys cA flx ftx base adS GWx xyx xcx xnx xrx Ex codex bmx bpx b t) 3 133 256 codex_1291 :=
  And.intro (anx_1287 Hy) (anx_1290 Hy)
theorem anx_1292 (Hy : Hyx tys cA base adS Ex) : xall (fun b t => xOK l Dg clx tys cA flx ftx base adS GWx xyx xcx xnx xrx Ex codex bmx bpx b t) 4 5 128 codex_1292 :=
  And.intro (anx_1284 Hy) (anx_1291 Hy)
theorem anx_1293 (Hy : Hyx tys cA base adS Ex) : xall (fun b t => xOK l Dg clx tys cA flx ftx base adS GWx xyx xcx xnx xrx Ex codex bmx bpx b t) 1 69 1024 codex_1293 :=
  And.intro (okx_69 Hy) (okx_1093 Hy)
theorem anx_1294 (Hy : Hyx tys cA base adS Ex) : xall (fun b t => xOK l Dg clx tys cA flx ftx base adS GWx xyx xcx xnx xrx Ex codex bmx bpx b t) 1 581 1024 codex_1294 :=
  And.intro (okx_581 Hy) (okzx 1605)
theorem anx_1295 (Hy : Hyx tys cA base adS Ex) : xall (fun b t => xOK l Dg clx tys cA flx ftx base adS GWx xyx xcx xnx xrx Ex codex bmx bpx b t) 2 69 512 codex_1295 :=
  And.intro (anx_1293 Hy) (anx_1294 Hy)
theorem anx_1296 (Hy : Hyx tys cA base adS Ex) : xall (fun b t => xOK l Dg clx tys cA flx ftx base adS GWx xyx xcx xnx xrx Ex codex bmx bpx b t) 1 325 1024 codex_1296 :=
  And.intro (okx_325 Hy) (okzx 1349)
theorem anx_1297 (Hy : Hyx tys cA base adS Ex) : xall (fun b t => xOK l Dg clx tys cA flx ftx base adS GWx xyx xcx xnx xrx Ex codex bmx bpx b t) 1 837 1024 codex_1297 :=
  And.intro (okx_837 Hy) (okzx 1861)
theorem anx_1298 (Hy : Hyx tys cA base adS Ex) : xall (fun b t => xOK l Dg clx tys cA flx ftx base adS GWx xyx xcx xnx xrx Ex codex bmx bpx b t) 2 325 512 codex_1298 :=
  And.intro (anx_1296 Hy) (anx_1297 Hy)
theorem anx_1299 (Hy : Hyx tys cA base adS Ex) : xall (fun b t => xOK l Dg clx tys cA flx ftx base adS GWx xyx xcx xnx xrx Ex codex bmx bpx b t) 3 69 256 codex_1299 :=
  And.intro (anx_1295 Hy) (anx_1298 Hy)
theorem anx_1300 (Hy : Hyx tys cA base adS Ex) : xall (fun b t => xOK l Dg clx tys cA flx ftx base adS GWx xyx xcx xnx xrx Ex codex bmx bpx b t) 1 197 1024 codex_1300 :=
  And.intro (okx_197 Hy) (okzx 1221)
theorem anx_1301 (Hy : Hyx tys cA base adS Ex) : xall (fun b t => xOK l Dg clx tys cA flx ftx base adS GWx xyx xcx xnx xrx Ex codex bmx bpx b t) 1 709 1024 codex_1301 :=
  And.intro (okx_709 Hy) (okzx 1733)
theorem anx_1302 (Hy : Hyx tys cA base adS Ex) : xall (fun b t => xOK l Dg clx tys cA flx ftx base adS GWx xyx xcx xnx xrx Ex codex bmx bpx b t) 2 197 512 codex_1302 :=
  And.intro (anx_1300 Hy) (anx_1301 Hy)
theorem anx_1303 (Hy : Hyx tys cA base adS Ex) : xall (fun b t => xOK l Dg clx tys cA flx ftx base adS GWx xyx xcx xnx xrx Ex codex bmx bpx b t) 1 453 1024 codex_1303 :=
  And.intro (okx_453 Hy) (okzx 1477)
theorem anx_1304 (Hy : Hyx tys cA base adS Ex) : xall (fun b t => xOK l Dg clx tys cA flx ftx base adS GWx xyx xcx xnx xrx Ex codex bmx bpx b t) 1 965 1024 codex_1304 :=
  And.intro (okx_965 Hy) (okzx 1989)
theorem anx_1305 (Hy : Hyx tys cA base adS Ex) : xall (fun b t => xOK l Dg clx tys cA flx ftx base adS GWx xyx xcx xnx xrx Ex codex bmx bpx b t) 2 453 512 codex_1305 :=
  And.intro (anx_1303 Hy) (anx_1304 Hy)
theorem anx_1306 (Hy : Hyx tys cA base adS Ex) : xall (fun b t => xOK l Dg clx tys cA flx ftx base adS GWx xyx xcx xnx xrx Ex codex bmx bpx b t) 3 197 256 codex_1306 :=
  And.intro (anx_1302 Hy) (anx_1305 Hy)
theorem anx_1307 (Hy : Hyx tys cA base adS Ex) : xall (fun b t => xOK l Dg clx tys cA flx ftx base adS GWx xyx xcx xnx xrx Ex codex bmx bpx b t) 4 69 128 codex_1307 :=
  And.intro (anx_1299 Hy) (anx_1306 Hy)
theorem anx_1308 (Hy : Hyx tys cA base adS Ex) : xall (fun b t => xOK l Dg clx tys cA flx ftx base adS GWx xyx xcx xnx xrx Ex codex bmx bpx b t) 5 5 64 codex_1308 :=
  And.intro (anx_1292 Hy) (anx_1307 Hy)
theorem anx_1309 (Hy : Hyx tys cA base adS Ex) : xall (fun b t => xOK l Dg clx tys cA flx ftx base adS GWx xyx xcx xnx xrx Ex codex bmx bpx b t) 1 37 1024 codex_1309 :=
  And.intro (okx_37 Hy) (okx_1061 Hy)
theorem anx_1310 (Hy : Hyx tys cA base adS Ex) : xall (fun b t => xOK l Dg clx tys cA flx ftx base adS GWx xyx xcx xnx xrx Ex codex bmx bpx b t) 1 549 1024 codex_1310 :=
  And.intro (okx_549 Hy) (okzx 1573)
theorem anx_1311 (Hy : Hyx tys cA base adS Ex) : xall (fun b t => xOK l Dg clx tys cA flx ftx base adS GWx xyx xcx xnx xrx Ex codex bmx bpx b t) 2 37 512 codex_1311 :=
  And.intro (anx_1309 Hy) (anx_1310 Hy)
theorem anx_1312 (Hy : Hyx tys cA base adS Ex) : xall (fun b t => xOK l Dg clx tys cA flx ftx base adS GWx xyx xcx xnx xrx Ex codex bmx bpx b t) 1 293 1024 codex_1312 :=
  And.intro (okx_293 Hy) (okzx 1317)
theorem anx_1313 (Hy : Hyx tys cA base adS Ex) : xall (fun b t => xOK l Dg clx tys cA flx ftx base adS GWx xyx xcx xnx xrx Ex codex bmx bpx b t) 1 805 1024 codex_1313 :=
  And.intro (okx_805 Hy) (okzx 1829)
theorem anx_1314 (Hy : Hyx tys cA base adS Ex) : xall (fun b t => xOK l Dg clx tys cA flx ftx base adS GWx xyx xcx xnx xrx Ex codex bmx bpx b t) 2 293 512 codex_1314 :=
  And.intro (anx_1312 Hy) (anx_1313 Hy)
theorem anx_1315 (Hy : Hyx tys cA base adS Ex) : xall (fun b t => xOK l Dg clx tys cA flx ftx base adS GWx xyx xcx xnx xrx Ex codex bmx bpx b t) 3 37 256 codex_1315 :=
  And.intro (anx_1311 Hy) (anx_1314 Hy)
theorem anx_1316 (Hy : Hyx tys cA base adS Ex) : xall (fun b t => xOK l Dg clx tys cA flx ftx base adS GWx xyx xcx xnx xrx Ex codex bmx bpx b t) 1 165 1024 codex_1316 :=
  And.intro (okx_165 Hy) (okx_1189 Hy)
theorem anx_1317 (Hy : Hyx tys cA base adS Ex) : xall (fun b t => xOK l Dg clx tys cA flx ftx base adS GWx xyx xcx xnx xrx Ex codex bmx bpx b t) 1 677 1024 codex_1317 :=
  And.intro (okx_677 Hy) (okzx 1701)
theorem anx_1318 (Hy : Hyx tys cA base adS Ex) : xall (fun b t => xOK l Dg clx tys cA flx ftx base adS GWx xyx xcx xnx xrx Ex codex bmx bpx b t) 2 165 512 codex_1318 :=
  And.intro (anx_1316 Hy) (anx_1317 Hy)
theorem anx_1319 (Hy : Hyx tys cA base adS Ex) : xall (fun b t => xOK l Dg clx tys cA flx ftx base adS GWx xyx xcx xnx xrx Ex codex bmx bpx b t) 1 421 1024 codex_1319 :=
  And.intro (okx_421 Hy) (okzx 1445)
theorem anx_1320 (Hy : Hyx tys cA base adS Ex) : xall (fun b t => xOK l Dg clx tys cA flx ftx base adS GWx xyx xcx xnx xrx Ex codex bmx bpx b t) 1 933 1024 codex_1320 :=
  And.intro (okx_933 Hy) (okzx 1957)
theorem anx_1321 (Hy : Hyx tys cA base adS Ex) : xall (fun b t => xOK l Dg clx tys cA flx ftx base adS GWx xyx xcx xnx xrx Ex codex bmx bpx b t) 2 421 512 codex_1321 :=
  And.intro (anx_1319 Hy) (anx_1320 Hy)
theorem anx_1322 (Hy : Hyx tys cA base adS Ex) : xall (fun b t => xOK l Dg clx tys cA flx ftx base adS GWx xyx xcx xnx xrx Ex codex bmx bpx b t) 3 165 256 codex_1322 :=
  And.intro (anx_1318 Hy) (anx_1321 Hy)
theorem anx_1323 (Hy : Hyx tys cA base adS Ex) : xall (fun b t => xOK l Dg clx tys cA flx ftx base adS GWx xyx xcx xnx xrx Ex codex bmx bpx b t) 4 37 128 codex_1323 :=
  And.intro (anx_1315 Hy) (anx_1322 Hy)
theorem anx_1324 (Hy : Hyx tys cA base adS Ex) : xall (fun b t => xOK l Dg clx tys cA flx ftx base adS GWx xyx xcx xnx xrx Ex codex bmx bpx b t) 1 101 1024 codex_1324 :=
  And.intro (okx_101 Hy) (okx_1125 Hy)
theorem anx_1325 (Hy : Hyx tys cA base adS Ex) : xall (fun b t => xOK l Dg clx tys cA flx ftx base adS GWx xyx xcx xnx xrx Ex codex bmx bpx b t) 1 613 1024 codex_1325 :=
  And.intro (okx_613 Hy) (okzx 1637)
theorem anx_1326 (Hy : Hyx tys cA base adS Ex) : xall (fun b t => xOK l Dg clx tys cA flx ftx base adS GWx xyx xcx xnx xrx Ex codex bmx bpx b t) 2 101 512 codex_1326 :=
  And.intro (anx_1324 Hy) (anx_1325 Hy)
theorem anx_1327 (Hy : Hyx tys cA base adS Ex) : xall (fun b t => xOK l Dg clx tys cA flx ftx base adS GWx xyx xcx xnx xrx Ex codex bmx bpx b t) 1 357 1024 codex_1327 :=
  And.intro (okx_357 Hy) (okzx 1381)
theorem anx_1328 (Hy : Hyx tys cA base adS Ex) : xall (fun b t => xOK l Dg clx tys cA flx ftx base adS GWx xyx xcx xnx xrx Ex codex bmx bpx b t) 1 869 1024 codex_1328 :=
  And.intro (okx_869 Hy) (okzx 1893)
theorem anx_1329 (Hy : Hyx tys cA base adS Ex) : xall (fun b t => xOK l Dg clx tys cA flx ftx base adS GWx xyx xcx xnx xrx Ex codex bmx bpx b t) 2 357 512 codex_1329 :=
  And.intro (anx_1327 Hy) (anx_1328 Hy)
theorem anx_1330 (Hy : Hyx tys cA base adS Ex) : xall (fun b t => xOK l Dg clx tys cA flx ftx base adS GWx xyx xcx xnx xrx Ex codex bmx bpx b t) 3 101 256 codex_1330 :=
  And.intro (anx_1326 Hy) (anx_1329 Hy)
theorem anx_1331 (Hy : Hyx tys cA base adS Ex) : xall (fun b t => xOK l Dg clx tys cA flx ftx base adS GWx xyx xcx xnx xrx Ex codex bmx bpx b t) 1 229 1024 codex_1331 :=
  And.intro (okx_229 Hy) (okzx 1253)
theorem anx_1332 (Hy : Hyx tys cA base adS Ex) : xall (fun b t => xOK l Dg clx tys cA flx ftx base adS GWx xyx xcx xnx xrx Ex codex bmx bpx b t) 1 741 1024 codex_1332 :=
  And.intro (okx_741 Hy) (okzx 1765)
theorem anx_1333 (Hy : Hyx tys cA base adS Ex) : xall (fun b t => xOK l Dg clx tys cA flx ftx base adS GWx xyx xcx xnx xrx Ex codex bmx bpx b t) 2 229 512 codex_1333 :=
  And.intro (anx_1331 Hy) (anx_1332 Hy)
theorem anx_1334 (Hy : Hyx tys cA base adS Ex) : xall (fun b t => xOK l Dg clx tys cA flx ftx base adS GWx xyx xcx xnx xrx Ex codex bmx bpx b t) 1 485 1024 codex_1334 :=
  And.intro (okx_485 Hy) (okzx 1509)
theorem anx_1335 (Hy : Hyx tys cA base adS Ex) : xall (fun b t => xOK l Dg clx tys cA flx ftx base adS GWx xyx xcx xnx xrx Ex codex bmx bpx b t) 1 997 1024 codex_1335 :=
  And.intro (okx_997 Hy) (okzx 2021)
theorem anx_1336 (Hy : Hyx tys cA base adS Ex) : xall (fun b t => xOK l Dg clx tys cA flx ftx base adS GWx xyx xcx xnx xrx Ex codex bmx bpx b t) 2 485 512 codex_1336 :=
  And.intro (anx_1334 Hy) (anx_1335 Hy)
theorem anx_1337 (Hy : Hyx tys cA base adS Ex) : xall (fun b t => xOK l Dg clx tys cA flx ftx base adS GWx xyx xcx xnx xrx Ex codex bmx bpx b t) 3 229 256 codex_1337 :=
  And.intro (anx_1333 Hy) (anx_1336 Hy)
theorem anx_1338 (Hy : Hyx tys cA base adS Ex) : xall (fun b t => xOK l Dg clx tys cA flx ftx base adS GWx xyx xcx xnx xrx Ex codex bmx bpx b t) 4 101 128 codex_1338 :=
  And.intro (anx_1330 Hy) (anx_1337 Hy)
theorem anx_1339 (Hy : Hyx tys cA base adS Ex) : xall (fun b t => xOK l Dg clx tys cA flx ftx base adS GWx xyx xcx xnx xrx Ex codex bmx bpx b t) 5 37 64 codex_1339 :=
  And.intro (anx_1323 Hy) (anx_1338 Hy)
theorem anx_1340 (Hy : Hyx tys cA base adS Ex) : xall (fun b t => xOK l Dg clx tys cA flx ftx base adS GWx xyx xcx xnx xrx Ex codex bmx bpx b t) 6 5 32 codex_1340 :=
  And.intro (anx_1308 Hy) (anx_1339 Hy)
theorem anx_1341 (Hy : Hyx tys cA base adS Ex) : xall (fun b t => xOK l Dg clx tys cA flx ftx base adS GWx xyx xcx xnx xrx Ex codex bmx bpx b t) 1 21 1024 codex_1341 :=
  And.intro (okx_21 Hy) (okx_1045 Hy)
theorem anx_1342 (Hy : Hyx tys cA base adS Ex) : xall (fun b t => xOK l Dg clx tys cA flx ftx base adS GWx xyx xcx xnx xrx Ex codex bmx bpx b t) 1 533 1024 codex_1342 :=
  And.intro (okx_533 Hy) (okzx 1557)
theorem anx_1343 (Hy : Hyx tys cA base adS Ex) : xall (fun b t => xOK l Dg clx tys cA flx ftx base adS GWx xyx xcx xnx xrx Ex codex bmx bpx b t) 2 21 512 codex_1343 :=
  And.intro (anx_1341 Hy) (anx_1342 Hy)
theorem anx_1344 (Hy : Hyx tys cA base adS Ex) : xall (fun b t => xOK l Dg clx tys cA flx ftx base adS GWx xyx xcx xnx xrx Ex codex bmx bpx b t) 1 277 1024 codex_1344 :=
  And.intro (okx_277 Hy) (okzx 1301)
theorem anx_1345 (Hy : Hyx tys cA base adS Ex) : xall (fun b t => xOK l Dg clx tys cA flx ftx base adS GWx xyx xcx xnx xrx Ex codex bmx bpx b t) 1 789 1024 codex_1345 :=
  And.intro (okx_789 Hy) (okzx 1813)
theorem anx_1346 (Hy : Hyx tys cA base adS Ex) : xall (fun b t => xOK l Dg clx tys cA flx ftx base adS GWx xyx xcx xnx xrx Ex codex bmx bpx b t) 2 277 512 codex_1346 :=
  And.intro (anx_1344 Hy) (anx_1345 Hy)
theorem anx_1347 (Hy : Hyx tys cA base adS Ex) : xall (fun b t => xOK l Dg clx tys cA flx ftx base adS GWx xyx xcx xnx xrx Ex codex bmx bpx b t) 3 21 256 codex_1347 :=
  And.intro (anx_1343 Hy) (anx_1346 Hy)
theorem anx_1348 (Hy : Hyx tys cA base adS Ex) : xall (fun b t => xOK l Dg clx tys cA flx ftx base adS GWx xyx xcx xnx xrx Ex codex bmx bpx b t) 1 149 1024 codex_1348 :=
  And.intro (okx_149 Hy) (okx_1173 Hy)
theorem anx_1349 (Hy : Hyx tys cA base adS Ex) : xall (fun b t => xOK l Dg clx tys cA flx ftx base adS GWx xyx xcx xnx xrx Ex codex bmx bpx b t) 1 661 1024 codex_1349 :=
  And.intro (okx_661 Hy) (okzx 1685)
theorem anx_1350 (Hy : Hyx tys cA base adS Ex) : xall (fun b t => xOK l Dg clx tys cA flx ftx base adS GWx xyx xcx xnx xrx Ex codex bmx bpx b t) 2 149 512 codex_1350 :=
  And.intro (anx_1348 Hy) (anx_1349 Hy)
theorem anx_1351 (Hy : Hyx tys cA base adS Ex) : xall (fun b t => xOK l Dg clx tys cA flx ftx base adS GWx xyx xcx xnx xrx Ex codex bmx bpx b t) 1 405 1024 codex_1351 :=
  And.intro (okx_405 Hy) (okzx 1429)
theorem anx_1352 (Hy : Hyx tys cA base adS Ex) : xall (fun b t => xOK l Dg clx tys cA flx ftx base adS GWx xyx xcx xnx xrx Ex codex bmx bpx b t) 1 917 1024 codex_1352 :=
  And.intro (okx_917 Hy) (okzx 1941)
theorem anx_1353 (Hy : Hyx tys cA base adS Ex) : xall (fun b t => xOK l Dg clx tys cA flx ftx base adS GWx xyx xcx xnx xrx Ex codex bmx bpx b t) 2 405 512 codex_1353 :=
  And.intro (anx_1351 Hy) (anx_1352 Hy)
theorem anx_1354 (Hy : Hyx tys cA base adS Ex) : xall (fun b t => xOK l Dg clx tys cA flx ftx base adS GWx xyx xcx xnx xrx Ex codex bmx bpx b t) 3 149 256 codex_1354 :=
  And.intro (anx_1350 Hy) (anx_1353 Hy)
theorem anx_1355 (Hy : Hyx tys cA base adS Ex) : xall (fun b t => xOK l Dg clx tys cA flx ftx base adS GWx xyx xcx xnx xrx Ex codex bmx bpx b t) 4 21 128 codex_1355 :=
  And.intro (anx_1347 Hy) (anx_1354 Hy)
theorem anx_1356 (Hy : Hyx tys cA base adS Ex) : xall (fun b t => xOK l Dg clx tys cA flx ftx base adS GWx xyx xcx xnx xrx Ex codex bmx bpx b t) 1 85 1024 codex_1356 :=
  And.intro (okx_85 Hy) (okx_1109 Hy)
theorem anx_1357 (Hy : Hyx tys cA base adS Ex) : xall (fun b t => xOK l Dg clx tys cA flx ftx base adS GWx xyx xcx xnx xrx Ex codex bmx bpx b t) 1 597 1024 codex_1357 :=
  And.intro (okx_597 Hy) (okzx 1621)
theorem anx_1358 (Hy : Hyx tys cA base adS Ex) : xall (fun b t => xOK l Dg clx tys cA flx ftx base adS GWx xyx xcx xnx xrx Ex codex bmx bpx b t) 2 85 512 codex_1358 :=
  And.intro (anx_1356 Hy) (anx_1357 Hy)
theorem anx_1359 (Hy : Hyx tys cA base adS Ex) : xall (fun b t => xOK l Dg clx tys cA flx ftx base adS GWx xyx xcx xnx xrx Ex codex bmx bpx b t) 1 341 1024 codex_1359 :=
  And.intro (okx_341 Hy) (okzx 1365)
theorem anx_1360 (Hy : Hyx tys cA base adS Ex) : xall (fun b t => xOK l Dg clx tys cA flx ftx base adS GWx xyx xcx xnx xrx Ex codex bmx bpx b t) 1 853 1024 codex_1360 :=
  And.intro (okx_853 Hy) (okzx 1877)
theorem anx_1361 (Hy : Hyx tys cA base adS Ex) : xall (fun b t => xOK l Dg clx tys cA flx ftx base adS GWx xyx xcx xnx xrx Ex codex bmx bpx b t) 2 341 512 codex_1361 :=
  And.intro (anx_1359 Hy) (anx_1360 Hy)
theorem anx_1362 (Hy : Hyx tys cA base adS Ex) : xall (fun b t => xOK l Dg clx tys cA flx ftx base adS GWx xyx xcx xnx xrx Ex codex bmx bpx b t) 3 85 256 codex_1362 :=
  And.intro (anx_1358 Hy) (anx_1361 Hy)
theorem anx_1363 (Hy : Hyx tys cA base adS Ex) : xall (fun b t => xOK l Dg clx tys cA flx ftx base adS GWx xyx xcx xnx xrx Ex codex bmx bpx b t) 1 213 1024 codex_1363 :=
  And.intro (okx_213 Hy) (okzx 1237)
theorem anx_1364 (Hy : Hyx tys cA base adS Ex) : xall (fun b t => xOK l Dg clx tys cA flx ftx base adS GWx xyx xcx xnx xrx Ex codex bmx bpx b t) 1 725 1024 codex_1364 :=
  And.intro (okx_725 Hy) (okzx 1749)
theorem anx_1365 (Hy : Hyx tys cA base adS Ex) : xall (fun b t => xOK l Dg clx tys cA flx ftx base adS GWx xyx xcx xnx xrx Ex codex bmx bpx b t) 2 213 512 codex_1365 :=
  And.intro (anx_1363 Hy) (anx_1364 Hy)
theorem anx_1366 (Hy : Hyx tys cA base adS Ex) : xall (fun b t => xOK l Dg clx tys cA flx ftx base adS GWx xyx xcx xnx xrx Ex codex bmx bpx b t) 1 469 1024 codex_1366 :=
  And.intro (okx_469 Hy) (okzx 1493)
theorem anx_1367 (Hy : Hyx tys cA base adS Ex) : xall (fun b t => xOK l Dg clx tys cA flx ftx base adS GWx xyx xcx xnx xrx Ex codex bmx bpx b t) 1 981 1024 codex_1367 :=
  And.intro (okx_981 Hy) (okzx 2005)
theorem anx_1368 (Hy : Hyx tys cA base adS Ex) : xall (fun b t => xOK l Dg clx tys cA flx ftx base adS GWx xyx xcx xnx xrx Ex codex bmx bpx b t) 2 469 512 codex_1368 :=
  And.intro (anx_1366 Hy) (anx_1367 Hy)
theorem anx_1369 (Hy : Hyx tys cA base adS Ex) : xall (fun b t => xOK l Dg clx tys cA flx ftx base adS GWx xyx xcx xnx xrx Ex codex bmx bpx b t) 3 213 256 codex_1369 :=
  And.intro (anx_1365 Hy) (anx_1368 Hy)
theorem anx_1370 (Hy : Hyx tys cA base adS Ex) : xall (fun b t => xOK l Dg clx tys cA flx ftx base adS GWx xyx xcx xnx xrx Ex codex bmx bpx b t) 4 85 128 codex_1370 :=
  And.intro (anx_1362 Hy) (anx_1369 Hy)
theorem anx_1371 (Hy : Hyx tys cA base adS Ex) : xall (fun b t => xOK l Dg clx tys cA flx ftx base adS GWx xyx xcx xnx xrx Ex codex bmx bpx b t) 5 21 64 codex_1371 :=
  And.intro (anx_1355 Hy) (anx_1370 Hy)
theorem anx_1372 (Hy : Hyx tys cA base adS Ex) : xall (fun b t => xOK l Dg clx tys cA flx ftx base adS GWx xyx xcx xnx xrx Ex codex bmx bpx b t) 1 53 1024 codex_1372 :=
  And.intro (okx_53 Hy) (okx_1077 Hy)
theorem anx_1373 (Hy : Hyx tys cA base adS Ex) : xall (fun b t => xOK l Dg clx tys cA flx ftx base adS GWx xyx xcx xnx xrx Ex codex bmx bpx b t) 1 565 1024 codex_1373 :=
  And.intro (okx_565 Hy) (okzx 1589)
theorem anx_1374 (Hy : Hyx tys cA base adS Ex) : xall (fun b t => xOK l Dg clx tys cA flx ftx base adS GWx xyx xcx xnx xrx Ex codex bmx bpx b t) 2 53 512 codex_1374 :=
  And.intro (anx_1372 Hy) (anx_1373 Hy)
theorem anx_1375 (Hy : Hyx tys cA base adS Ex) : xall (fun b t => xOK l Dg clx tys cA flx ftx base adS GWx xyx xcx xnx xrx Ex codex bmx bpx b t) 1 309 1024 codex_1375 :=
  And.intro (okx_309 Hy) (okzx 1333)
theorem anx_1376 (Hy : Hyx tys cA base adS Ex) : xall (fun b t => xOK l Dg clx tys cA flx ftx base adS GWx xyx xcx xnx xrx Ex codex bmx bpx b t) 1 821 1024 codex_1376 :=
  And.intro (okx_821 Hy) (okzx 1845)
theorem anx_1377 (Hy : Hyx tys cA base adS Ex) : xall (fun b t => xOK l Dg clx tys cA flx ftx base adS GWx xyx xcx xnx xrx Ex codex bmx bpx b t) 2 309 512 codex_1377 :=
  And.intro (anx_1375 Hy) (anx_1376 Hy)
theorem anx_1378 (Hy : Hyx tys cA base adS Ex) : xall (fun b t => xOK l Dg clx tys cA flx ftx base adS GWx xyx xcx xnx xrx Ex codex bmx bpx b t) 3 53 256 codex_1378 :=
  And.intro (anx_1374 Hy) (anx_1377 Hy)
theorem anx_1379 (Hy : Hyx tys cA base adS Ex) : xall (fun b t => xOK l Dg clx tys cA flx ftx base adS GWx xyx xcx xnx xrx Ex codex bmx bpx b t) 1 181 1024 codex_1379 :=
  And.intro (okx_181 Hy) (okzx 1205)
theorem anx_1380 (Hy : Hyx tys cA base adS Ex) : xall (fun b t => xOK l Dg clx tys cA flx ftx base adS GWx xyx xcx xnx xrx Ex codex bmx bpx b t) 1 693 1024 codex_1380 :=
  And.intro (okx_693 Hy) (okzx 1717)
theorem anx_1381 (Hy : Hyx tys cA base adS Ex) : xall (fun b t => xOK l Dg clx tys cA flx ftx base adS GWx xyx xcx xnx xrx Ex codex bmx bpx b t) 2 181 512 codex_1381 :=
  And.intro (anx_1379 Hy) (anx_1380 Hy)
theorem anx_1382 (Hy : Hyx tys cA base adS Ex) : xall (fun b t => xOK l Dg clx tys cA flx ftx base adS GWx xyx xcx xnx xrx Ex codex bmx bpx b t) 1 437 1024 codex_1382 :=
  And.intro (okx_437 Hy) (okzx 1461)
theorem anx_1383 (Hy : Hyx tys cA base adS Ex) : xall (fun b t => xOK l Dg clx tys cA flx ftx base adS GWx xyx xcx xnx xrx Ex codex bmx bpx b t) 1 949 1024 codex_1383 :=
  And.intro (okx_949 Hy) (okzx 1973)
theorem anx_1384 (Hy : Hyx tys cA base adS Ex) : xall (fun b t => xOK l Dg clx tys cA flx ftx base adS GWx xyx xcx xnx xrx Ex codex bmx bpx b t) 2 437 512 codex_1384 :=
  And.intro (anx_1382 Hy) (anx_1383 Hy)
theorem anx_1385 (Hy : Hyx tys cA base adS Ex) : xall (fun b t => xOK l Dg clx tys cA flx ftx base adS GWx xyx xcx xnx xrx Ex codex bmx bpx b t) 3 181 256 codex_1385 :=
  And.intro (anx_1381 Hy) (anx_1384 Hy)
theorem anx_1386 (Hy : Hyx tys cA base adS Ex) : xall (fun b t => xOK l Dg clx tys cA flx ftx base adS GWx xyx xcx xnx xrx Ex codex bmx bpx b t) 4 53 128 codex_1386 :=
  And.intro (anx_1378 Hy) (anx_1385 Hy)
theorem anx_1387 (Hy : Hyx tys cA base adS Ex) : xall (fun b t => xOK l Dg clx tys cA flx ftx base adS GWx xyx xcx xnx xrx Ex codex bmx bpx b t) 1 117 1024 codex_1387 :=
  And.intro (okx_117 Hy) (okx_1141 Hy)
theorem anx_1388 (Hy : Hyx tys cA base adS Ex) : xall (fun b t => xOK l Dg clx tys cA flx ftx base adS GWx xyx xcx xnx xrx Ex codex bmx bpx b t) 1 629 1024 codex_1388 :=
  And.intro (okx_629 Hy) (okzx 1653)
theorem anx_1389 (Hy : Hyx tys cA base adS Ex) : xall (fun b t => xOK l Dg clx tys cA flx ftx base adS GWx xyx xcx xnx xrx Ex codex bmx bpx b t) 2 117 512 codex_1389 :=
  And.intro (anx_1387 Hy) (anx_1388 Hy)
theorem anx_1390 (Hy : Hyx tys cA base adS Ex) : xall (fun b t => xOK l Dg clx tys cA flx ftx base adS GWx xyx xcx xnx xrx Ex codex bmx bpx b t) 1 373 1024 codex_1390 :=
  And.intro (okx_373 Hy) (okzx 1397)
theorem anx_1391 (Hy : Hyx tys cA base adS Ex) : xall (fun b t => xOK l Dg clx tys cA flx ftx base adS GWx xyx xcx xnx xrx Ex codex bmx bpx b t) 1 885 1024 codex_1391 :=
  And.intro (okx_885 Hy) (okzx 1909)
theorem anx_1392 (Hy : Hyx tys cA base adS Ex) : xall (fun b t => xOK l Dg clx tys cA flx ftx base adS GWx xyx xcx xnx xrx Ex codex bmx bpx b t) 2 373 512 codex_1392 :=
  And.intro (anx_1390 Hy) (anx_1391 Hy)
theorem anx_1393 (Hy : Hyx tys cA base adS Ex) : xall (fun b t => xOK l Dg clx tys cA flx ftx base adS GWx xyx xcx xnx xrx Ex codex bmx bpx b t) 3 117 256 codex_1393 :=
  And.intro (anx_1389 Hy) (anx_1392 Hy)
theorem anx_1394 (Hy : Hyx tys cA base adS Ex) : xall (fun b t => xOK l Dg clx tys cA flx ftx base adS GWx xyx xcx xnx xrx Ex codex bmx bpx b t) 1 245 1024 codex_1394 :=
  And.intro (okx_245 Hy) (okzx 1269)
theorem anx_1395 (Hy : Hyx tys cA base adS Ex) : xall (fun b t => xOK l Dg clx tys cA flx ftx base adS GWx xyx xcx xnx xrx Ex codex bmx bpx b t) 1 757 1024 codex_1395 :=
  And.intro (okx_757 Hy) (okzx 1781)
theorem anx_1396 (Hy : Hyx tys cA base adS Ex) : xall (fun b t => xOK l Dg clx tys cA flx ftx base adS GWx xyx xcx xnx xrx Ex codex bmx bpx b t) 2 245 512 codex_1396 :=
  And.intro (anx_1394 Hy) (anx_1395 Hy)
theorem anx_1397 (Hy : Hyx tys cA base adS Ex) : xall (fun b t => xOK l Dg clx tys cA flx ftx base adS GWx xyx xcx xnx xrx Ex codex bmx bpx b t) 1 501 1024 codex_1397 :=
  And.intro (okx_501 Hy) (okzx 1525)
theorem anx_1398 (Hy : Hyx tys cA base adS Ex) : xall (fun b t => xOK l Dg clx tys cA flx ftx base adS GWx xyx xcx xnx xrx Ex codex bmx bpx b t) 1 1013 1024 codex_1398 :=
  And.intro (okx_1013 Hy) (okzx 2037)
theorem anx_1399 (Hy : Hyx tys cA base adS Ex) : xall (fun b t => xOK l Dg clx tys cA flx ftx base adS GWx xyx xcx xnx xrx Ex codex bmx bpx b t) 2 501 512 codex_1399 :=
  And.intro (anx_1397 Hy) (anx_1398 Hy)
theorem anx_1400 (Hy : Hyx tys cA base adS Ex) : xall (fun b t => xOK l Dg clx tys cA flx ftx base adS GWx xyx xcx xnx xrx Ex codex bmx bpx b t) 3 245 256 codex_1400 :=
  And.intro (anx_1396 Hy) (anx_1399 Hy)
theorem anx_1401 (Hy : Hyx tys cA base adS Ex) : xall (fun b t => xOK l Dg clx tys cA flx ftx base adS GWx xyx xcx xnx xrx Ex codex bmx bpx b t) 4 117 128 codex_1401 :=
  And.intro (anx_1393 Hy) (anx_1400 Hy)
theorem anx_1402 (Hy : Hyx tys cA base adS Ex) : xall (fun b t => xOK l Dg clx tys cA flx ftx base adS GWx xyx xcx xnx xrx Ex codex bmx bpx b t) 5 53 64 codex_1402 :=
  And.intro (anx_1386 Hy) (anx_1401 Hy)
theorem anx_1403 (Hy : Hyx tys cA base adS Ex) : xall (fun b t => xOK l Dg clx tys cA flx ftx base adS GWx xyx xcx xnx xrx Ex codex bmx bpx b t) 6 21 32 codex_1403 :=
  And.intro (anx_1371 Hy) (anx_1402 Hy)
theorem anx_1404 (Hy : Hyx tys cA base adS Ex) : xall (fun b t => xOK l Dg clx tys cA flx ftx base adS GWx xyx xcx xnx xrx Ex codex bmx bpx b t) 7 5 16 codex_1404 :=
  And.intro (anx_1340 Hy) (anx_1403 Hy)
theorem anx_1405 (Hy : Hyx tys cA base adS Ex) : xall (fun b t => xOK l Dg clx tys cA flx ftx base adS GWx xyx xcx xnx xrx Ex codex bmx bpx b t) 1 13 1024 codex_1405 :=
  And.intro (okx_13 Hy) (okx_1037 Hy)
theorem anx_1406 (Hy : Hyx tys cA base adS Ex) : xall (fun b t => xOK l Dg clx tys cA flx ftx base adS GWx xyx xcx xnx xrx Ex codex bmx bpx b t) 1 525 1024 codex_1406 :=
  And.intro (okx_525 Hy) (okzx 1549)
theorem anx_1407 (Hy : Hyx tys cA base adS Ex) : xall (fun b t => xOK l Dg clx tys cA flx ftx base adS GWx xyx xcx xnx xrx Ex codex bmx bpx b t) 2 13 512 codex_1407 :=
  And.intro (anx_1405 Hy) (anx_1406 Hy)
theorem anx_1408 (Hy : Hyx tys cA base adS Ex) : xall (fun b t => xOK l Dg clx tys cA flx ftx base adS GWx xyx xcx xnx xrx Ex codex bmx bpx b t) 1 269 1024 codex_1408 :=
  And.intro (okx_269 Hy) (okzx 1293)
theorem anx_1409 (Hy : Hyx tys cA base adS Ex) : xall (fun b t => xOK l Dg clx tys cA flx ftx base adS GWx xyx xcx xnx xrx Ex codex bmx bpx b t) 1 781 1024 codex_1409 :=
  And.intro (okx_781 Hy) (okzx 1805)
theorem anx_1410 (Hy : Hyx tys cA base adS Ex) : xall (fun b t => xOK l Dg clx tys cA flx ftx base adS GWx xyx xcx xnx xrx Ex codex bmx bpx b t) 2 269 512 codex_1410 :=
  And.intro (anx_1408 Hy) (anx_1409 Hy)
theorem anx_1411 (Hy : Hyx tys cA base adS Ex) : xall (fun b t => xOK l Dg clx tys cA flx ftx base adS GWx xyx xcx xnx xrx Ex codex bmx bpx b t) 3 13 256 codex_1411 :=
  And.intro (anx_1407 Hy) (anx_1410 Hy)
theorem anx_1412 (Hy : Hyx tys cA base adS Ex) : xall (fun b t => xOK l Dg clx tys cA flx ftx base adS GWx xyx xcx xnx xrx Ex codex bmx bpx b t) 1 141 1024 codex_1412 :=
  And.intro (okx_141 Hy) (okx_1165 Hy)
theorem anx_1413 (Hy : Hyx tys cA base adS Ex) : xall (fun b t => xOK l Dg clx tys cA flx ftx base adS GWx xyx xcx xnx xrx Ex codex bmx bpx b t) 1 653 1024 codex_1413 :=
  And.intro (okx_653 Hy) (okzx 1677)
theorem anx_1414 (Hy : Hyx tys cA base adS Ex) : xall (fun b t => xOK l Dg clx tys cA flx ftx base adS GWx xyx xcx xnx xrx Ex codex bmx bpx b t) 2 141 512 codex_1414 :=
  And.intro (anx_1412 Hy) (anx_1413 Hy)
theorem anx_1415 (Hy : Hyx tys cA base adS Ex) : xall (fun b t => xOK l Dg clx tys cA flx ftx base adS GWx xyx xcx xnx xrx Ex codex bmx bpx b t) 1 397 1024 codex_1415 :=
  And.intro (okx_397 Hy) (okzx 1421)
theorem anx_1416 (Hy : Hyx tys cA base adS Ex) : xall (fun b t => xOK l Dg clx tys cA flx ftx base adS GWx xyx xcx xnx xrx Ex codex bmx bpx b t) 1 909 1024 codex_1416 :=
  And.intro (okx_909 Hy) (okzx 1933)
theorem anx_1417 (Hy : Hyx tys cA base adS Ex) : xall (fun b t => xOK l Dg clx tys cA flx ftx base adS GWx xyx xcx xnx xrx Ex codex bmx bpx b t) 2 397 512 codex_1417 :=
  And.intro (anx_1415 Hy) (anx_1416 Hy)
theorem anx_1418 (Hy : Hyx tys cA base adS Ex) : xall (fun b t => xOK l Dg clx tys cA flx ftx base adS GWx xyx xcx xnx xrx Ex codex bmx bpx b t) 3 141 256 codex_1418 :=
  And.intro (anx_1414 Hy) (anx_1417 Hy)
theorem anx_1419 (Hy : Hyx tys cA base adS Ex) : xall (fun b t => xOK l Dg clx tys cA flx ftx base adS GWx xyx xcx xnx xrx Ex codex bmx bpx b t) 4 13 128 codex_1419 :=
  And.intro (anx_1411 Hy) (anx_1418 Hy)
theorem anx_1420 (Hy : Hyx tys cA base adS Ex) : xall (fun b t => xOK l Dg clx tys cA flx ftx base adS GWx xyx xcx xnx xrx Ex codex bmx bpx b t) 1 77 1024 codex_1420 :=
  And.intro (okx_77 Hy) (okx_1101 Hy)
theorem anx_1421 (Hy : Hyx tys cA base adS Ex) : xall (fun b t => xOK l Dg clx tys cA flx ftx base adS GWx xyx xcx xnx xrx Ex codex bmx bpx b t) 1 589 1024 codex_1421 :=
  And.intro (okx_589 Hy) (okzx 1613)
theorem anx_1422 (Hy : Hyx tys cA base adS Ex) : xall (fun b t => xOK l Dg clx tys cA flx ftx base adS GWx xyx xcx xnx xrx Ex codex bmx bpx b t) 2 77 512 codex_1422 :=
  And.intro (anx_1420 Hy) (anx_1421 Hy)
theorem anx_1423 (Hy : Hyx tys cA base adS Ex) : xall (fun b t => xOK l Dg clx tys cA flx ftx base adS GWx xyx xcx xnx xrx Ex codex bmx bpx b t) 1 333 1024 codex_1423 :=
  And.intro (okx_333 Hy) (okzx 1357)
theorem anx_1424 (Hy : Hyx tys cA base adS Ex) : xall (fun b t => xOK l Dg clx tys cA flx ftx base adS GWx xyx xcx xnx xrx Ex codex bmx bpx b t) 1 845 1024 codex_1424 :=
  And.intro (okx_845 Hy) (okzx 1869)
theorem anx_1425 (Hy : Hyx tys cA base adS Ex) : xall (fun b t => xOK l Dg clx tys cA flx ftx base adS GWx xyx xcx xnx xrx Ex codex bmx bpx b t) 2 333 512 codex_1425 :=
  And.intro (anx_1423 Hy) (anx_1424 Hy)
theorem anx_1426 (Hy : Hyx tys cA base adS Ex) : xall (fun b t => xOK l Dg clx tys cA flx ftx base adS GWx xyx xcx xnx xrx Ex codex bmx bpx b t) 3 77 256 codex_1426 :=
  And.intro (anx_1422 Hy) (anx_1425 Hy)
theorem anx_1427 (Hy : Hyx tys cA base adS Ex) : xall (fun b t => xOK l Dg clx tys cA flx ftx base adS GWx xyx xcx xnx xrx Ex codex bmx bpx b t) 1 205 1024 codex_1427 :=
  And.intro (okx_205 Hy) (okzx 1229)
theorem anx_1428 (Hy : Hyx tys cA base adS Ex) : xall (fun b t => xOK l Dg clx tys cA flx ftx base adS GWx xyx xcx xnx xrx Ex codex bmx bpx b t) 1 717 1024 codex_1428 :=
  And.intro (okx_717 Hy) (okzx 1741)
theorem anx_1429 (Hy : Hyx tys cA base adS Ex) : xall (fun b t => xOK l Dg clx tys cA flx ftx base adS GWx xyx xcx xnx xrx Ex codex bmx bpx b t) 2 205 512 codex_1429 :=
  And.intro (anx_1427 Hy) (anx_1428 Hy)
theorem anx_1430 (Hy : Hyx tys cA base adS Ex) : xall (fun b t => xOK l Dg clx tys cA flx ftx base adS GWx xyx xcx xnx xrx Ex codex bmx bpx b t) 1 461 1024 codex_1430 :=
  And.intro (okx_461 Hy) (okzx 1485)
theorem anx_1431 (Hy : Hyx tys cA base adS Ex) : xall (fun b t => xOK l Dg clx tys cA flx ftx base adS GWx xyx xcx xnx xrx Ex codex bmx bpx b t) 1 973 1024 codex_1431 :=
  And.intro (okx_973 Hy) (okzx 1997)
theorem anx_1432 (Hy : Hyx tys cA base adS Ex) : xall (fun b t => xOK l Dg clx tys cA flx ftx base adS GWx xyx xcx xnx xrx Ex codex bmx bpx b t) 2 461 512 codex_1432 :=
  And.intro (anx_1430 Hy) (anx_1431 Hy)
theorem anx_1433 (Hy : Hyx tys cA base adS Ex) : xall (fun b t => xOK l Dg clx tys cA flx ftx base adS GWx xyx xcx xnx xrx Ex codex bmx bpx b t) 3 205 256 codex_1433 :=
  And.intro (anx_1429 Hy) (anx_1432 Hy)
theorem anx_1434 (Hy : Hyx tys cA base adS Ex) : xall (fun b t => xOK l Dg clx tys cA flx ftx base adS GWx xyx xcx xnx xrx Ex codex bmx bpx b t) 4 77 128 codex_1434 :=
  And.intro (anx_1426 Hy) (anx_1433 Hy)
theorem anx_1435 (Hy : Hyx tys cA base adS Ex) : xall (fun b t => xOK l Dg clx tys cA flx ftx base adS GWx xyx xcx xnx xrx Ex codex bmx bpx b t) 5 13 64 codex_1435 :=
  And.intro (anx_1419 Hy) (anx_1434 Hy)
theorem anx_1436 (Hy : Hyx tys cA base adS Ex) : xall (fun b t => xOK l Dg clx tys cA flx ftx base adS GWx xyx xcx xnx xrx Ex codex bmx bpx b t) 1 45 1024 codex_1436 :=
  And.intro (okx_45 Hy) (okx_1069 Hy)
theorem anx_1437 (Hy : Hyx tys cA base adS Ex) : xall (fun b t => xOK l Dg clx tys cA flx ftx base adS GWx xyx xcx xnx xrx Ex codex bmx bpx b t) 1 557 1024 codex_1437 :=
  And.intro (okx_557 Hy) (okzx 1581)
theorem anx_1438 (Hy : Hyx tys cA base adS Ex) : xall (fun b t => xOK l Dg clx tys cA flx ftx base adS GWx xyx xcx xnx xrx Ex codex bmx bpx b t) 2 45 512 codex_1438 :=
  And.intro (anx_1436 Hy) (anx_1437 Hy)
theorem anx_1439 (Hy : Hyx tys cA base adS Ex) : xall (fun b t => xOK l Dg clx tys cA flx ftx base adS GWx xyx xcx xnx xrx Ex codex bmx bpx b t) 1 301 1024 codex_1439 :=
  And.intro (okx_301 Hy) (okzx 1325)
theorem anx_1440 (Hy : Hyx tys cA base adS Ex) : xall (fun b t => xOK l Dg clx tys cA flx ftx base adS GWx xyx xcx xnx xrx Ex codex bmx bpx b t) 1 813 1024 codex_1440 :=
  And.intro (okx_813 Hy) (okzx 1837)
theorem anx_1441 (Hy : Hyx tys cA base adS Ex) : xall (fun b t => xOK l Dg clx tys cA flx ftx base adS GWx xyx xcx xnx xrx Ex codex bmx bpx b t) 2 301 512 codex_1441 :=
  And.intro (anx_1439 Hy) (anx_1440 Hy)
theorem anx_1442 (Hy : Hyx tys cA base adS Ex) : xall (fun b t => xOK l Dg clx tys cA flx ftx base adS GWx xyx xcx xnx xrx Ex codex bmx bpx b t) 3 45 256 codex_1442 :=
  And.intro (anx_1438 Hy) (anx_1441 Hy)
theorem anx_1443 (Hy : Hyx tys cA base adS Ex) : xall (fun b t => xOK l Dg clx tys cA flx ftx base adS GWx xyx xcx xnx xrx Ex codex bmx bpx b t) 1 173 1024 codex_1443 :=
  And.intro (okx_173 Hy) (okzx 1197)
theorem anx_1444 (Hy : Hyx tys cA base adS Ex) : xall (fun b t => xOK l Dg clx tys cA flx ftx base adS GWx xyx xcx xnx xrx Ex codex bmx bpx b t) 1 685 1024 codex_1444 :=
  And.intro (okx_685 Hy) (okzx 1709)
theorem anx_1445 (Hy : Hyx tys cA base adS Ex) : xall (fun b t => xOK l Dg clx tys cA flx ftx base adS GWx xyx xcx xnx xrx Ex codex bmx bpx b t) 2 173 512 codex_1445 :=
  And.intro (anx_1443 Hy) (anx_1444 Hy)
theorem anx_1446 (Hy : Hyx tys cA base adS Ex) : xall (fun b t => xOK l Dg clx tys cA flx ftx base adS GWx xyx xcx xnx xrx Ex codex bmx bpx b t) 1 429 1024 codex_1446 :=
  And.intro (okx_429 Hy) (okzx 1453)
theorem anx_1447 (Hy : Hyx tys cA base adS Ex) : xall (fun b t => xOK l Dg clx tys cA flx ftx base adS GWx xyx xcx xnx xrx Ex codex bmx bpx b t) 1 941 1024 codex_1447 :=
  And.intro (okx_941 Hy) (okzx 1965)
theorem anx_1448 (Hy : Hyx tys cA base adS Ex) : xall (fun b t => xOK l Dg clx tys cA flx ftx base adS GWx xyx xcx xnx xrx Ex codex bmx bpx b t) 2 429 512 codex_1448 :=
  And.intro (anx_1446 Hy) (anx_1447 Hy)
theorem anx_1449 (Hy : Hyx tys cA base adS Ex) : xall (fun b t => xOK l Dg clx tys cA flx ftx base adS GWx xyx xcx xnx xrx Ex codex bmx bpx b t) 3 173 256 codex_1449 :=
  And.intro (anx_1445 Hy) (anx_1448 Hy)
theorem anx_1450 (Hy : Hyx tys cA base adS Ex) : xall (fun b t => xOK l Dg clx tys cA flx ftx base adS GWx xyx xcx xnx xrx Ex codex bmx bpx b t) 4 45 128 codex_1450 :=
  And.intro (anx_1442 Hy) (anx_1449 Hy)
theorem anx_1451 (Hy : Hyx tys cA base adS Ex) : xall (fun b t => xOK l Dg clx tys cA flx ftx base adS GWx xyx xcx xnx xrx Ex codex bmx bpx b t) 1 109 1024 codex_1451 :=
  And.intro (okx_109 Hy) (okx_1133 Hy)
theorem anx_1452 (Hy : Hyx tys cA base adS Ex) : xall (fun b t => xOK l Dg clx tys cA flx ftx base adS GWx xyx xcx xnx xrx Ex codex bmx bpx b t) 1 621 1024 codex_1452 :=
  And.intro (okx_621 Hy) (okzx 1645)
theorem anx_1453 (Hy : Hyx tys cA base adS Ex) : xall (fun b t => xOK l Dg clx tys cA flx ftx base adS GWx xyx xcx xnx xrx Ex codex bmx bpx b t) 2 109 512 codex_1453 :=
  And.intro (anx_1451 Hy) (anx_1452 Hy)
theorem anx_1454 (Hy : Hyx tys cA base adS Ex) : xall (fun b t => xOK l Dg clx tys cA flx ftx base adS GWx xyx xcx xnx xrx Ex codex bmx bpx b t) 1 365 1024 codex_1454 :=
  And.intro (okx_365 Hy) (okzx 1389)
theorem anx_1455 (Hy : Hyx tys cA base adS Ex) : xall (fun b t => xOK l Dg clx tys cA flx ftx base adS GWx xyx xcx xnx xrx Ex codex bmx bpx b t) 1 877 1024 codex_1455 :=
  And.intro (okx_877 Hy) (okzx 1901)
theorem anx_1456 (Hy : Hyx tys cA base adS Ex) : xall (fun b t => xOK l Dg clx tys cA flx ftx base adS GWx xyx xcx xnx xrx Ex codex bmx bpx b t) 2 365 512 codex_1456 :=
  And.intro (anx_1454 Hy) (anx_1455 Hy)
theorem anx_1457 (Hy : Hyx tys cA base adS Ex) : xall (fun b t => xOK l Dg clx tys cA flx ftx base adS GWx xyx xcx xnx xrx Ex codex bmx bpx b t) 3 109 256 codex_1457 :=
  And.intro (anx_1453 Hy) (anx_1456 Hy)
theorem anx_1458 (Hy : Hyx tys cA base adS Ex) : xall (fun b t => xOK l Dg clx tys cA flx ftx base adS GWx xyx xcx xnx xrx Ex codex bmx bpx b t) 1 237 1024 codex_1458 :=
  And.intro (okx_237 Hy) (okzx 1261)
theorem anx_1459 (Hy : Hyx tys cA base adS Ex) : xall (fun b t => xOK l Dg clx tys cA flx ftx base adS GWx xyx xcx xnx xrx Ex codex bmx bpx b t) 1 749 1024 codex_1459 :=
  And.intro (okx_749 Hy) (okzx 1773)
theorem anx_1460 (Hy : Hyx tys cA base adS Ex) : xall (fun b t => xOK l Dg clx tys cA flx ftx base adS GWx xyx xcx xnx xrx Ex codex bmx bpx b t) 2 237 512 codex_1460 :=
  And.intro (anx_1458 Hy) (anx_1459 Hy)
theorem anx_1461 (Hy : Hyx tys cA base adS Ex) : xall (fun b t => xOK l Dg clx tys cA flx ftx base adS GWx xyx xcx xnx xrx Ex codex bmx bpx b t) 1 493 1024 codex_1461 :=
  And.intro (okx_493 Hy) (okzx 1517)
theorem anx_1462 (Hy : Hyx tys cA base adS Ex) : xall (fun b t => xOK l Dg clx tys cA flx ftx base adS GWx xyx xcx xnx xrx Ex codex bmx bpx b t) 1 1005 1024 codex_1462 :=
  And.intro (okx_1005 Hy) (okzx 2029)
theorem anx_1463 (Hy : Hyx tys cA base adS Ex) : xall (fun b t => xOK l Dg clx tys cA flx ftx base adS GWx xyx xcx xnx xrx Ex codex bmx bpx b t) 2 493 512 codex_1463 :=
  And.intro (anx_1461 Hy) (anx_1462 Hy)
theorem anx_1464 (Hy : Hyx tys cA base adS Ex) : xall (fun b t => xOK l Dg clx tys cA flx ftx base adS GWx xyx xcx xnx xrx Ex codex bmx bpx b t) 3 237 256 codex_1464 :=
  And.intro (anx_1460 Hy) (anx_1463 Hy)
theorem anx_1465 (Hy : Hyx tys cA base adS Ex) : xall (fun b t => xOK l Dg clx tys cA flx ftx base adS GWx xyx xcx xnx xrx Ex codex bmx bpx b t) 4 109 128 codex_1465 :=
  And.intro (anx_1457 Hy) (anx_1464 Hy)
theorem anx_1466 (Hy : Hyx tys cA base adS Ex) : xall (fun b t => xOK l Dg clx tys cA flx ftx base adS GWx xyx xcx xnx xrx Ex codex bmx bpx b t) 5 45 64 codex_1466 :=
  And.intro (anx_1450 Hy) (anx_1465 Hy)
theorem anx_1467 (Hy : Hyx tys cA base adS Ex) : xall (fun b t => xOK l Dg clx tys cA flx ftx base adS GWx xyx xcx xnx xrx Ex codex bmx bpx b t) 6 13 32 codex_1467 :=
  And.intro (anx_1435 Hy) (anx_1466 Hy)
theorem anx_1468 (Hy : Hyx tys cA base adS Ex) : xall (fun b t => xOK l Dg clx tys cA flx ftx base adS GWx xyx xcx xnx xrx Ex codex bmx bpx b t) 1 29 1024 codex_1468 :=
  And.intro (okx_29 Hy) (okx_1053 Hy)
theorem anx_1469 (Hy : Hyx tys cA base adS Ex) : xall (fun b t => xOK l Dg clx tys cA flx ftx base adS GWx xyx xcx xnx xrx Ex codex bmx bpx b t) 1 541 1024 codex_1469 :=
  And.intro (okx_541 Hy) (okzx 1565)
theorem anx_1470 (Hy : Hyx tys cA base adS Ex) : xall (fun b t => xOK l Dg clx tys cA flx ftx base adS GWx xyx xcx xnx xrx Ex codex bmx bpx b t) 2 29 512 codex_1470 :=
  And.intro (anx_1468 Hy) (anx_1469 Hy)
theorem anx_1471 (Hy : Hyx tys cA base adS Ex) : xall (fun b t => xOK l Dg clx tys cA flx ftx base adS GWx xyx xcx xnx xrx Ex codex bmx bpx b t) 1 285 1024 codex_1471 :=
  And.intro (okx_285 Hy) (okzx 1309)
theorem anx_1472 (Hy : Hyx tys cA base adS Ex) : xall (fun b t => xOK l Dg clx tys cA flx ftx base adS GWx xyx xcx xnx xrx Ex codex bmx bpx b t) 1 797 1024 codex_1472 :=
  And.intro (okx_797 Hy) (okzx 1821)
theorem anx_1473 (Hy : Hyx tys cA base adS Ex) : xall (fun b t => xOK l Dg clx tys cA flx ftx base adS GWx xyx xcx xnx xrx Ex codex bmx bpx b t) 2 285 512 codex_1473 :=
  And.intro (anx_1471 Hy) (anx_1472 Hy)
theorem anx_1474 (Hy : Hyx tys cA base adS Ex) : xall (fun b t => xOK l Dg clx tys cA flx ftx base adS GWx xyx xcx xnx xrx Ex codex bmx bpx b t) 3 29 256 codex_1474 :=
  And.intro (anx_1470 Hy) (anx_1473 Hy)
theorem anx_1475 (Hy : Hyx tys cA base adS Ex) : xall (fun b t => xOK l Dg clx tys cA flx ftx base adS GWx xyx xcx xnx xrx Ex codex bmx bpx b t) 1 157 1024 codex_1475 :=
  And.intro (okx_157 Hy) (okx_1181 Hy)
theorem anx_1476 (Hy : Hyx tys cA base adS Ex) : xall (fun b t => xOK l Dg clx tys cA flx ftx base adS GWx xyx xcx xnx xrx Ex codex bmx bpx b t) 1 669 1024 codex_1476 :=
  And.intro (okx_669 Hy) (okzx 1693)
theorem anx_1477 (Hy : Hyx tys cA base adS Ex) : xall (fun b t => xOK l Dg clx tys cA flx ftx base adS GWx xyx xcx xnx xrx Ex codex bmx bpx b t) 2 157 512 codex_1477 :=
  And.intro (anx_1475 Hy) (anx_1476 Hy)
theorem anx_1478 (Hy : Hyx tys cA base adS Ex) : xall (fun b t => xOK l Dg clx tys cA flx ftx base adS GWx xyx xcx xnx xrx Ex codex bmx bpx b t) 1 413 1024 codex_1478 :=
  And.intro (okx_413 Hy) (okzx 1437)
theorem anx_1479 (Hy : Hyx tys cA base adS Ex) : xall (fun b t => xOK l Dg clx tys cA flx ftx base adS GWx xyx xcx xnx xrx Ex codex bmx bpx b t) 1 925 1024 codex_1479 :=
  And.intro (okx_925 Hy) (okzx 1949)
theorem anx_1480 (Hy : Hyx tys cA base adS Ex) : xall (fun b t => xOK l Dg clx tys cA flx ftx base adS GWx xyx xcx xnx xrx Ex codex bmx bpx b t) 2 413 512 codex_1480 :=
  And.intro (anx_1478 Hy) (anx_1479 Hy)
theorem anx_1481 (Hy : Hyx tys cA base adS Ex) : xall (fun b t => xOK l Dg clx tys cA flx ftx base adS GWx xyx xcx xnx xrx Ex codex bmx bpx b t) 3 157 256 codex_1481 :=
  And.intro (anx_1477 Hy) (anx_1480 Hy)
theorem anx_1482 (Hy : Hyx tys cA base adS Ex) : xall (fun b t => xOK l Dg clx tys cA flx ftx base adS GWx xyx xcx xnx xrx Ex codex bmx bpx b t) 4 29 128 codex_1482 :=
  And.intro (anx_1474 Hy) (anx_1481 Hy)
theorem anx_1483 (Hy : Hyx tys cA base adS Ex) : xall (fun b t => xOK l Dg clx tys cA flx ftx base adS GWx xyx xcx xnx xrx Ex codex bmx bpx b t) 1 93 1024 codex_1483 :=
  And.intro (okx_93 Hy) (okx_1117 Hy)
theorem anx_1484 (Hy : Hyx tys cA base adS Ex) : xall (fun b t => xOK l Dg clx tys cA flx ftx base adS GWx xyx xcx xnx xrx Ex codex bmx bpx b t) 1 605 1024 codex_1484 :=
  And.intro (okx_605 Hy) (okzx 1629)
theorem anx_1485 (Hy : Hyx tys cA base adS Ex) : xall (fun b t => xOK l Dg clx tys cA flx ftx base adS GWx xyx xcx xnx xrx Ex codex bmx bpx b t) 2 93 512 codex_1485 :=
  And.intro (anx_1483 Hy) (anx_1484 Hy)
theorem anx_1486 (Hy : Hyx tys cA base adS Ex) : xall (fun b t => xOK l Dg clx tys cA flx ftx base adS GWx xyx xcx xnx xrx Ex codex bmx bpx b t) 1 349 1024 codex_1486 :=
  And.intro (okx_349 Hy) (okzx 1373)
theorem anx_1487 (Hy : Hyx tys cA base adS Ex) : xall (fun b t => xOK l Dg clx tys cA flx ftx base adS GWx xyx xcx xnx xrx Ex codex bmx bpx b t) 1 861 1024 codex_1487 :=
  And.intro (okx_861 Hy) (okzx 1885)
theorem anx_1488 (Hy : Hyx tys cA base adS Ex) : xall (fun b t => xOK l Dg clx tys cA flx ftx base adS GWx xyx xcx xnx xrx Ex codex bmx bpx b t) 2 349 512 codex_1488 :=
  And.intro (anx_1486 Hy) (anx_1487 Hy)
theorem anx_1489 (Hy : Hyx tys cA base adS Ex) : xall (fun b t => xOK l Dg clx tys cA flx ftx base adS GWx xyx xcx xnx xrx Ex codex bmx bpx b t) 3 93 256 codex_1489 :=
  And.intro (anx_1485 Hy) (anx_1488 Hy)
theorem anx_1490 (Hy : Hyx tys cA base adS Ex) : xall (fun b t => xOK l Dg clx tys cA flx ftx base adS GWx xyx xcx xnx xrx Ex codex bmx bpx b t) 1 221 1024 codex_1490 :=
  And.intro (okx_221 Hy) (okzx 1245)
theorem anx_1491 (Hy : Hyx tys cA base adS Ex) : xall (fun b t => xOK l Dg clx tys cA flx ftx base adS GWx xyx xcx xnx xrx Ex codex bmx bpx b t) 1 733 1024 codex_1491 :=
  And.intro (okx_733 Hy) (okzx 1757)
theorem anx_1492 (Hy : Hyx tys cA base adS Ex) : xall (fun b t => xOK l Dg clx tys cA flx ftx base adS GWx xyx xcx xnx xrx Ex codex bmx bpx b t) 2 221 512 codex_1492 :=
  And.intro (anx_1490 Hy) (anx_1491 Hy)
theorem anx_1493 (Hy : Hyx tys cA base adS Ex) : xall (fun b t => xOK l Dg clx tys cA flx ftx base adS GWx xyx xcx xnx xrx Ex codex bmx bpx b t) 1 477 1024 codex_1493 :=
  And.intro (okx_477 Hy) (okzx 1501)
theorem anx_1494 (Hy : Hyx tys cA base adS Ex) : xall (fun b t => xOK l Dg clx tys cA flx ftx base adS GWx xyx xcx xnx xrx Ex codex bmx bpx b t) 1 989 1024 codex_1494 :=
  And.intro (okx_989 Hy) (okzx 2013)
theorem anx_1495 (Hy : Hyx tys cA base adS Ex) : xall (fun b t => xOK l Dg clx tys cA flx ftx base adS GWx xyx xcx xnx xrx Ex codex bmx bpx b t) 2 477 512 codex_1495 :=
  And.intro (anx_1493 Hy) (anx_1494 Hy)
theorem anx_1496 (Hy : Hyx tys cA base adS Ex) : xall (fun b t => xOK l Dg clx tys cA flx ftx base adS GWx xyx xcx xnx xrx Ex codex bmx bpx b t) 3 221 256 codex_1496 :=
  And.intro (anx_1492 Hy) (anx_1495 Hy)
theorem anx_1497 (Hy : Hyx tys cA base adS Ex) : xall (fun b t => xOK l Dg clx tys cA flx ftx base adS GWx xyx xcx xnx xrx Ex codex bmx bpx b t) 4 93 128 codex_1497 :=
  And.intro (anx_1489 Hy) (anx_1496 Hy)
theorem anx_1498 (Hy : Hyx tys cA base adS Ex) : xall (fun b t => xOK l Dg clx tys cA flx ftx base adS GWx xyx xcx xnx xrx Ex codex bmx bpx b t) 5 29 64 codex_1498 :=
  And.intro (anx_1482 Hy) (anx_1497 Hy)
theorem anx_1499 (Hy : Hyx tys cA base adS Ex) : xall (fun b t => xOK l Dg clx tys cA flx ftx base adS GWx xyx xcx xnx xrx Ex codex bmx bpx b t) 1 61 1024 codex_1499 :=
  And.intro (okx_61 Hy) (okx_1085 Hy)
theorem anx_1500 (Hy : Hyx tys cA base adS Ex) : xall (fun b t => xOK l Dg clx tys cA flx ftx base adS GWx xyx xcx xnx xrx Ex codex bmx bpx b t) 1 573 1024 codex_1500 :=
  And.intro (okx_573 Hy) (okzx 1597)
theorem anx_1501 (Hy : Hyx tys cA base adS Ex) : xall (fun b t => xOK l Dg clx tys cA flx ftx base adS GWx xyx xcx xnx xrx Ex codex bmx bpx b t) 2 61 512 codex_1501 :=
  And.intro (anx_1499 Hy) (anx_1500 Hy)
theorem anx_1502 (Hy : Hyx tys cA base adS Ex) : xall (fun b t => xOK l Dg clx tys cA flx ftx base adS GWx xyx xcx xnx xrx Ex codex bmx bpx b t) 1 317 1024 codex_1502 :=
  And.intro (okx_317 Hy) (okzx 1341)
theorem anx_1503 (Hy : Hyx tys cA base adS Ex) : xall (fun b t => xOK l Dg clx tys cA flx ftx base adS GWx xyx xcx xnx xrx Ex codex bmx bpx b t) 1 829 1024 codex_1503 :=
  And.intro (okx_829 Hy) (okzx 1853)
theorem anx_1504 (Hy : Hyx tys cA base adS Ex) : xall (fun b t => xOK l Dg clx tys cA flx ftx base adS GWx xyx xcx xnx xrx Ex codex bmx bpx b t) 2 317 512 codex_1504 :=
  And.intro (anx_1502 Hy) (anx_1503 Hy)
theorem anx_1505 (Hy : Hyx tys cA base adS Ex) : xall (fun b t => xOK l Dg clx tys cA flx ftx base adS GWx xyx xcx xnx xrx Ex codex bmx bpx b t) 3 61 256 codex_1505 :=
  And.intro (anx_1501 Hy) (anx_1504 Hy)
theorem anx_1506 (Hy : Hyx tys cA base adS Ex) : xall (fun b t => xOK l Dg clx tys cA flx ftx base adS GWx xyx xcx xnx xrx Ex codex bmx bpx b t) 1 189 1024 codex_1506 :=
  And.intro (okx_189 Hy) (okzx 1213)
theorem anx_1507 (Hy : Hyx tys cA base adS Ex) : xall (fun b t => xOK l Dg clx tys cA flx ftx base adS GWx xyx xcx xnx xrx Ex codex bmx bpx b t) 1 701 1024 codex_1507 :=
  And.intro (okx_701 Hy) (okzx 1725)
theorem anx_1508 (Hy : Hyx tys cA base adS Ex) : xall (fun b t => xOK l Dg clx tys cA flx ftx base adS GWx xyx xcx xnx xrx Ex codex bmx bpx b t) 2 189 512 codex_1508 :=
  And.intro (anx_1506 Hy) (anx_1507 Hy)
theorem anx_1509 (Hy : Hyx tys cA base adS Ex) : xall (fun b t => xOK l Dg clx tys cA flx ftx base adS GWx xyx xcx xnx xrx Ex codex bmx bpx b t) 1 445 1024 codex_1509 :=
  And.intro (okx_445 Hy) (okzx 1469)
theorem anx_1510 (Hy : Hyx tys cA base adS Ex) : xall (fun b t => xOK l Dg clx tys cA flx ftx base adS GWx xyx xcx xnx xrx Ex codex bmx bpx b t) 1 957 1024 codex_1510 :=
  And.intro (okx_957 Hy) (okzx 1981)
theorem anx_1511 (Hy : Hyx tys cA base adS Ex) : xall (fun b t => xOK l Dg clx tys cA flx ftx base adS GWx xyx xcx xnx xrx Ex codex bmx bpx b t) 2 445 512 codex_1511 :=
  And.intro (anx_1509 Hy) (anx_1510 Hy)
theorem anx_1512 (Hy : Hyx tys cA base adS Ex) : xall (fun b t => xOK l Dg clx tys cA flx ftx base adS GWx xyx xcx xnx xrx Ex codex bmx bpx b t) 3 189 256 codex_1512 :=
  And.intro (anx_1508 Hy) (anx_1511 Hy)
theorem anx_1513 (Hy : Hyx tys cA base adS Ex) : xall (fun b t => xOK l Dg clx tys cA flx ftx base adS GWx xyx xcx xnx xrx Ex codex bmx bpx b t) 4 61 128 codex_1513 :=
  And.intro (anx_1505 Hy) (anx_1512 Hy)
theorem anx_1514 (Hy : Hyx tys cA base adS Ex) : xall (fun b t => xOK l Dg clx tys cA flx ftx base adS GWx xyx xcx xnx xrx Ex codex bmx bpx b t) 1 125 1024 codex_1514 :=
  And.intro (okx_125 Hy) (okx_1149 Hy)
theorem anx_1515 (Hy : Hyx tys cA base adS Ex) : xall (fun b t => xOK l Dg clx tys cA flx ftx base adS GWx xyx xcx xnx xrx Ex codex bmx bpx b t) 1 637 1024 codex_1515 :=
  And.intro (okx_637 Hy) (okzx 1661)
theorem anx_1516 (Hy : Hyx tys cA base adS Ex) : xall (fun b t => xOK l Dg clx tys cA flx ftx base adS GWx xyx xcx xnx xrx Ex codex bmx bpx b t) 2 125 512 codex_1516 :=
  And.intro (anx_1514 Hy) (anx_1515 Hy)
theorem anx_1517 (Hy : Hyx tys cA base adS Ex) : xall (fun b t => xOK l Dg clx tys cA flx ftx base adS GWx xyx xcx xnx xrx Ex codex bmx bpx b t) 1 381 1024 codex_1517 :=
  And.intro (okx_381 Hy) (okzx 1405)
theorem anx_1518 (Hy : Hyx tys cA base adS Ex) : xall (fun b t => xOK l Dg clx tys cA flx ftx base adS GWx xyx xcx xnx xrx Ex codex bmx bpx b t) 1 893 1024 codex_1518 :=
  And.intro (okx_893 Hy) (okzx 1917)
theorem anx_1519 (Hy : Hyx tys cA base adS Ex) : xall (fun b t => xOK l Dg clx tys cA flx ftx base adS GWx xyx xcx xnx xrx Ex codex bmx bpx b t) 2 381 512 codex_1519 :=
  And.intro (anx_1517 Hy) (anx_1518 Hy)
theorem anx_1520 (Hy : Hyx tys cA base adS Ex) : xall (fun b t => xOK l Dg clx tys cA flx ftx base adS GWx xyx xcx xnx xrx Ex codex bmx bpx b t) 3 125 256 codex_1520 :=
  And.intro (anx_1516 Hy) (anx_1519 Hy)
theorem anx_1521 (Hy : Hyx tys cA base adS Ex) : xall (fun b t => xOK l Dg clx tys cA flx ftx base adS GWx xyx xcx xnx xrx Ex codex bmx bpx b t) 1 253 1024 codex_1521 :=
  And.intro (okx_253 Hy) (okzx 1277)
theorem anx_1522 (Hy : Hyx tys cA base adS Ex) : xall (fun b t => xOK l Dg clx tys cA flx ftx base adS GWx xyx xcx xnx xrx Ex codex bmx bpx b t) 1 765 1024 codex_1522 :=
  And.intro (okx_765 Hy) (okzx 1789)
theorem anx_1523 (Hy : Hyx tys cA base adS Ex) : xall (fun b t => xOK l Dg clx tys cA flx ftx base adS GWx xyx xcx xnx xrx Ex codex bmx bpx b t) 2 253 512 codex_1523 :=
  And.intro (anx_1521 Hy) (anx_1522 Hy)
theorem anx_1524 (Hy : Hyx tys cA base adS Ex) : xall (fun b t => xOK l Dg clx tys cA flx ftx base adS GWx xyx xcx xnx xrx Ex codex bmx bpx b t) 1 509 1024 codex_1524 :=
  And.intro (okx_509 Hy) (okzx 1533)
theorem anx_1525 (Hy : Hyx tys cA base adS Ex) : xall (fun b t => xOK l Dg clx tys cA flx ftx base adS GWx xyx xcx xnx xrx Ex codex bmx bpx b t) 1 1021 1024 codex_1525 :=
  And.intro (okx_1021 Hy) (okzx 2045)
theorem anx_1526 (Hy : Hyx tys cA base adS Ex) : xall (fun b t => xOK l Dg clx tys cA flx ftx base adS GWx xyx xcx xnx xrx Ex codex bmx bpx b t) 2 509 512 codex_1526 :=
  And.intro (anx_1524 Hy) (anx_1525 Hy)
theorem anx_1527 (Hy : Hyx tys cA base adS Ex) : xall (fun b t => xOK l Dg clx tys cA flx ftx base adS GWx xyx xcx xnx xrx Ex codex bmx bpx b t) 3 253 256 codex_1527 :=
  And.intro (anx_1523 Hy) (anx_1526 Hy)
theorem anx_1528 (Hy : Hyx tys cA base adS Ex) : xall (fun b t => xOK l Dg clx tys cA flx ftx base adS GWx xyx xcx xnx xrx Ex codex bmx bpx b t) 4 125 128 codex_1528 :=
  And.intro (anx_1520 Hy) (anx_1527 Hy)
theorem anx_1529 (Hy : Hyx tys cA base adS Ex) : xall (fun b t => xOK l Dg clx tys cA flx ftx base adS GWx xyx xcx xnx xrx Ex codex bmx bpx b t) 5 61 64 codex_1529 :=
  And.intro (anx_1513 Hy) (anx_1528 Hy)
theorem anx_1530 (Hy : Hyx tys cA base adS Ex) : xall (fun b t => xOK l Dg clx tys cA flx ftx base adS GWx xyx xcx xnx xrx Ex codex bmx bpx b t) 6 29 32 codex_1530 :=
  And.intro (anx_1498 Hy) (anx_1529 Hy)
theorem anx_1531 (Hy : Hyx tys cA base adS Ex) : xall (fun b t => xOK l Dg clx tys cA flx ftx base adS GWx xyx xcx xnx xrx Ex codex bmx bpx b t) 7 13 16 codex_1531 :=
  And.intro (anx_1467 Hy) (anx_1530 Hy)
theorem anx_1532 (Hy : Hyx tys cA base adS Ex) : xall (fun b t => xOK l Dg clx tys cA flx ftx base adS GWx xyx xcx xnx xrx Ex codex bmx bpx b t) 8 5 8 codex_1532 :=
  And.intro (anx_1404 Hy) (anx_1531 Hy)
theorem anx_1533 (Hy : Hyx tys cA base adS Ex) : xall (fun b t => xOK l Dg clx tys cA flx ftx base adS GWx xyx xcx xnx xrx Ex codex bmx bpx b t) 9 1 4 codex_1533 :=
  And.intro (anx_1277 Hy) (anx_1532 Hy)
theorem anx_1534 (Hy : Hyx tys cA base adS Ex) : xall (fun b t => xOK l Dg clx tys cA flx ftx base adS GWx xyx xcx xnx xrx Ex codex bmx bpx b t) 1 3 1024 codex_1534 :=
  And.intro (okx_3 Hy) (okx_1027 Hy)
theorem anx_1535 (Hy : Hyx tys cA base adS Ex) : xall (fun b t => xOK l Dg clx tys cA flx ftx base adS GWx xyx xcx xnx xrx Ex codex bmx bpx b t) 1 515 1024 codex_1535 :=
  And.intro (okx_515 Hy) (okzx 1539)
theorem anx_1536 (Hy : Hyx tys cA base adS Ex) : xall (fun b t => xOK l Dg clx tys cA flx ftx base adS GWx xyx xcx xnx xrx Ex codex bmx bpx b t) 2 3 512 codex_1536 :=
  And.intro (anx_1534 Hy) (anx_1535 Hy)
theorem anx_1537 (Hy : Hyx tys cA base adS Ex) : xall (fun b t => xOK l Dg clx tys cA flx ftx base adS GWx xyx xcx xnx xrx Ex codex bmx bpx b t) 1 259 1024 codex_1537 :=
  And.intro (okx_259 Hy) (okzx 1283)
theorem anx_1538 (Hy : Hyx tys cA base adS Ex) : xall (fun b t => xOK l Dg clx tys cA flx ftx base adS GWx xyx xcx xnx xrx Ex codex bmx bpx b t) 1 771 1024 codex_1538 :=
  And.intro (okx_771 Hy) (okzx 1795)
theorem anx_1539 (Hy : Hyx tys cA base adS Ex) : xall (fun b t => xOK l Dg clx tys cA flx ftx base adS GWx xyx xcx xnx xrx Ex codex bmx bpx b t) 2 259 512 codex_1539 :=
  And.intro (anx_1537 Hy) (anx_1538 Hy)
theorem anx_1540 (Hy : Hyx tys cA base adS Ex) : xall (fun b t => xOK l Dg clx tys cA flx ftx base adS GWx xyx xcx xnx xrx Ex codex bmx bpx b t) 3 3 256 codex_1540 :=
  And.intro (anx_1536 Hy) (anx_1539 Hy)
theorem anx_1541 (Hy : Hyx tys cA base adS Ex) : xall (fun b t => xOK l Dg clx tys cA flx ftx base adS GWx xyx xcx xnx xrx Ex codex bmx bpx b t) 1 131 1024 codex_1541 :=
  And.intro (okx_131 Hy) (okx_1155 Hy)
theorem anx_1542 (Hy : Hyx tys cA base adS Ex) : xall (fun b t => xOK l Dg clx tys cA flx ftx base adS GWx xyx xcx xnx xrx Ex codex bmx bpx b t) 1 643 1024 codex_1542 :=
  And.intro (okx_643 Hy) (okzx 1667)
theorem anx_1543 (Hy : Hyx tys cA base adS Ex) : xall (fun b t => xOK l Dg clx tys cA flx ftx base adS GWx xyx xcx xnx xrx Ex codex bmx bpx b t) 2 131 512 codex_1543 :=
  And.intro (anx_1541 Hy) (anx_1542 Hy)
theorem anx_1544 (Hy : Hyx tys cA base adS Ex) : xall (fun b t => xOK l Dg clx tys cA flx ftx base adS GWx xyx xcx xnx xrx Ex codex bmx bpx b t) 1 387 1024 codex_1544 :=
  And.intro (okx_387 Hy) (okzx 1411)
theorem anx_1545 (Hy : Hyx tys cA base adS Ex) : xall (fun b t => xOK l Dg clx tys cA flx ftx base adS GWx xyx xcx xnx xrx Ex codex bmx bpx b t) 1 899 1024 codex_1545 :=
  And.intro (okx_899 Hy) (okzx 1923)
theorem anx_1546 (Hy : Hyx tys cA base adS Ex) : xall (fun b t => xOK l Dg clx tys cA flx ftx base adS GWx xyx xcx xnx xrx Ex codex bmx bpx b t) 2 387 512 codex_1546 :=
  And.intro (anx_1544 Hy) (anx_1545 Hy)
theorem anx_1547 (Hy : Hyx tys cA base adS Ex) : xall (fun b t => xOK l Dg clx tys cA flx ftx base adS GWx xyx xcx xnx xrx Ex codex bmx bpx b t) 3 131 256 codex_1547 :=
  And.intro (anx_1543 Hy) (anx_1546 Hy)
theorem anx_1548 (Hy : Hyx tys cA base adS Ex) : xall (fun b t => xOK l Dg clx tys cA flx ftx base adS GWx xyx xcx xnx xrx Ex codex bmx bpx b t) 4 3 128 codex_1548 :=
  And.intro (anx_1540 Hy) (anx_1547 Hy)
theorem anx_1549 (Hy : Hyx tys cA base adS Ex) : xall (fun b t => xOK l Dg clx tys cA flx ftx base adS GWx xyx xcx xnx xrx Ex codex bmx bpx b t) 1 67 1024 codex_1549 :=
  And.intro (okx_67 Hy) (okx_1091 Hy)
theorem anx_1550 (Hy : Hyx tys cA base adS Ex) : xall (fun b t => xOK l Dg clx tys cA flx ftx base adS GWx xyx xcx xnx xrx Ex codex bmx bpx b t) 1 579 1024 codex_1550 :=
  And.intro (okx_579 Hy) (okzx 1603)
theorem anx_1551 (Hy : Hyx tys cA base adS Ex) : xall (fun b t => xOK l Dg clx tys cA flx ftx base adS GWx xyx xcx xnx xrx Ex codex bmx bpx b t) 2 67 512 codex_1551 :=
  And.intro (anx_1549 Hy) (anx_1550 Hy)
theorem anx_1552 (Hy : Hyx tys cA base adS Ex) : xall (fun b t => xOK l Dg clx tys cA flx ftx base adS GWx xyx xcx xnx xrx Ex codex bmx bpx b t) 1 323 1024 codex_1552 :=
  And.intro (okx_323 Hy) (okzx 1347)
theorem anx_1553 (Hy : Hyx tys cA base adS Ex) : xall (fun b t => xOK l Dg clx tys cA flx ftx base adS GWx xyx xcx xnx xrx Ex codex bmx bpx b t) 1 835 1024 codex_1553 :=
  And.intro (okx_835 Hy) (okzx 1859)
theorem anx_1554 (Hy : Hyx tys cA base adS Ex) : xall (fun b t => xOK l Dg clx tys cA flx ftx base adS GWx xyx xcx xnx xrx Ex codex bmx bpx b t) 2 323 512 codex_1554 :=
  And.intro (anx_1552 Hy) (anx_1553 Hy)
theorem anx_1555 (Hy : Hyx tys cA base adS Ex) : xall (fun b t => xOK l Dg clx tys cA flx ftx base adS GWx xyx xcx xnx xrx Ex codex bmx bpx b t) 3 67 256 codex_1555 :=
  And.intro (anx_1551 Hy) (anx_1554 Hy)
theorem anx_1556 (Hy : Hyx tys cA base adS Ex) : xall (fun b t => xOK l Dg clx tys cA flx ftx base adS GWx xyx xcx xnx xrx Ex codex bmx bpx b t) 1 195 1024 codex_1556 :=
  And.intro (okx_195 Hy) (okzx 1219)
theorem anx_1557 (Hy : Hyx tys cA base adS Ex) : xall (fun b t => xOK l Dg clx tys cA flx ftx base adS GWx xyx xcx xnx xrx Ex codex bmx bpx b t) 1 707 1024 codex_1557 :=
  And.intro (okx_707 Hy) (okzx 1731)
theorem anx_1558 (Hy : Hyx tys cA base adS Ex) : xall (fun b t => xOK l Dg clx tys cA flx ftx base adS GWx xyx xcx xnx xrx Ex codex bmx bpx b t) 2 195 512 codex_1558 :=
  And.intro (anx_1556 Hy) (anx_1557 Hy)
theorem anx_1559 (Hy : Hyx tys cA base adS Ex) : xall (fun b t => xOK l Dg clx tys cA flx ftx base adS GWx xyx xcx xnx xrx Ex codex bmx bpx b t) 1 451 1024 codex_1559 :=
  And.intro (okx_451 Hy) (okzx 1475)
theorem anx_1560 (Hy : Hyx tys cA base adS Ex) : xall (fun b t => xOK l Dg clx tys cA flx ftx base adS GWx xyx xcx xnx xrx Ex codex bmx bpx b t) 1 963 1024 codex_1560 :=
  And.intro (okx_963 Hy) (okzx 1987)
theorem anx_1561 (Hy : Hyx tys cA base adS Ex) : xall (fun b t => xOK l Dg clx tys cA flx ftx base adS GWx xyx xcx xnx xrx Ex codex bmx bpx b t) 2 451 512 codex_1561 :=
  And.intro (anx_1559 Hy) (anx_1560 Hy)
theorem anx_1562 (Hy : Hyx tys cA base adS Ex) : xall (fun b t => xOK l Dg clx tys cA flx ftx base adS GWx xyx xcx xnx xrx Ex codex bmx bpx b t) 3 195 256 codex_1562 :=
  And.intro (anx_1558 Hy) (anx_1561 Hy)
theorem anx_1563 (Hy : Hyx tys cA base adS Ex) : xall (fun b t => xOK l Dg clx tys cA flx ftx base adS GWx xyx xcx xnx xrx Ex codex bmx bpx b t) 4 67 128 codex_1563 :=
  And.intro (anx_1555 Hy) (anx_1562 Hy)
theorem anx_1564 (Hy : Hyx tys cA base adS Ex) : xall (fun b t => xOK l Dg clx tys cA flx ftx base adS GWx xyx xcx xnx xrx Ex codex bmx bpx b t) 5 3 64 codex_1564 :=
  And.intro (anx_1548 Hy) (anx_1563 Hy)
theorem anx_1565 (Hy : Hyx tys cA base adS Ex) : xall (fun b t => xOK l Dg clx tys cA flx ftx base adS GWx xyx xcx xnx xrx Ex codex bmx bpx b t) 1 35 1024 codex_1565 :=
  And.intro (okx_35 Hy) (okx_1059 Hy)
theorem anx_1566 (Hy : Hyx tys cA base adS Ex) : xall (fun b t => xOK l Dg clx tys cA flx ftx base adS GWx xyx xcx xnx xrx Ex codex bmx bpx b t) 1 547 1024 codex_1566 :=
  And.intro (okx_547 Hy) (okzx 1571)
theorem anx_1567 (Hy : Hyx tys cA base adS Ex) : xall (fun b t => xOK l Dg clx tys cA flx ftx base adS GWx xyx xcx xnx xrx Ex codex bmx bpx b t) 2 35 512 codex_1567 :=
  And.intro (anx_1565 Hy) (anx_1566 Hy)
theorem anx_1568 (Hy : Hyx tys cA base adS Ex) : xall (fun b t => xOK l Dg clx tys cA flx ftx base adS GWx xyx xcx xnx xrx Ex codex bmx bpx b t) 1 291 1024 codex_1568 :=
  And.intro (okx_291 Hy) (okzx 1315)
theorem anx_1569 (Hy : Hyx tys cA base adS Ex) : xall (fun b t => xOK l Dg clx tys cA flx ftx base adS GWx xyx xcx xnx xrx Ex codex bmx bpx b t) 1 803 1024 codex_1569 :=
  And.intro (okx_803 Hy) (okzx 1827)
theorem anx_1570 (Hy : Hyx tys cA base adS Ex) : xall (fun b t => xOK l Dg clx tys cA flx ftx base adS GWx xyx xcx xnx xrx Ex codex bmx bpx b t) 2 291 512 codex_1570 :=
  And.intro (anx_1568 Hy) (anx_1569 Hy)
theorem anx_1571 (Hy : Hyx tys cA base adS Ex) : xall (fun b t => xOK l Dg clx tys cA flx ftx base adS GWx xyx xcx xnx xrx Ex codex bmx bpx b t) 3 35 256 codex_1571 :=
  And.intro (anx_1567 Hy) (anx_1570 Hy)
theorem anx_1572 (Hy : Hyx tys cA base adS Ex) : xall (fun b t => xOK l Dg clx tys cA flx ftx base adS GWx xyx xcx xnx xrx Ex codex bmx bpx b t) 1 163 1024 codex_1572 :=
  And.intro (okx_163 Hy) (okx_1187 Hy)
theorem anx_1573 (Hy : Hyx tys cA base adS Ex) : xall (fun b t => xOK l Dg clx tys cA flx ftx base adS GWx xyx xcx xnx xrx Ex codex bmx bpx b t) 1 675 1024 codex_1573 :=
  And.intro (okx_675 Hy) (okzx 1699)
theorem anx_1574 (Hy : Hyx tys cA base adS Ex) : xall (fun b t => xOK l Dg clx tys cA flx ftx base adS GWx xyx xcx xnx xrx Ex codex bmx bpx b t) 2 163 512 codex_1574 :=
  And.intro (anx_1572 Hy) (anx_1573 Hy)
theorem anx_1575 (Hy : Hyx tys cA base adS Ex) : xall (fun b t => xOK l Dg clx tys cA flx ftx base adS GWx xyx xcx xnx xrx Ex codex bmx bpx b t) 1 419 1024 codex_1575 :=
  And.intro (okx_419 Hy) (okzx 1443)
theorem anx_1576 (Hy : Hyx tys cA base adS Ex) : xall (fun b t => xOK l Dg clx tys cA flx ftx base adS GWx xyx xcx xnx xrx Ex codex bmx bpx b t) 1 931 1024 codex_1576 :=
  And.intro (okx_931 Hy) (okzx 1955)
theorem anx_1577 (Hy : Hyx tys cA base adS Ex) : xall (fun b t => xOK l Dg clx tys cA flx ftx base adS GWx xyx xcx xnx xrx Ex codex bmx bpx b t) 2 419 512 codex_1577 :=
  And.intro (anx_1575 Hy) (anx_1576 Hy)
theorem anx_1578 (Hy : Hyx tys cA base adS Ex) : xall (fun b t => xOK l Dg clx tys cA flx ftx base adS GWx xyx xcx xnx xrx Ex codex bmx bpx b t) 3 163 256 codex_1578 :=
  And.intro (anx_1574 Hy) (anx_1577 Hy)
theorem anx_1579 (Hy : Hyx tys cA base adS Ex) : xall (fun b t => xOK l Dg clx tys cA flx ftx base adS GWx xyx xcx xnx xrx Ex codex bmx bpx b t) 4 35 128 codex_1579 :=
  And.intro (anx_1571 Hy) (anx_1578 Hy)
theorem anx_1580 (Hy : Hyx tys cA base adS Ex) : xall (fun b t => xOK l Dg clx tys cA flx ftx base adS GWx xyx xcx xnx xrx Ex codex bmx bpx b t) 1 99 1024 codex_1580 :=
  And.intro (okx_99 Hy) (okx_1123 Hy)
theorem anx_1581 (Hy : Hyx tys cA base adS Ex) : xall (fun b t => xOK l Dg clx tys cA flx ftx base adS GWx xyx xcx xnx xrx Ex codex bmx bpx b t) 1 611 1024 codex_1581 :=
  And.intro (okx_611 Hy) (okzx 1635)
theorem anx_1582 (Hy : Hyx tys cA base adS Ex) : xall (fun b t => xOK l Dg clx tys cA flx ftx base adS GWx xyx xcx xnx xrx Ex codex bmx bpx b t) 2 99 512 codex_1582 :=
  And.intro (anx_1580 Hy) (anx_1581 Hy)
theorem anx_1583 (Hy : Hyx tys cA base adS Ex) : xall (fun b t => xOK l Dg clx tys cA flx ftx base adS GWx xyx xcx xnx xrx Ex codex bmx bpx b t) 1 355 1024 codex_1583 :=
  And.intro (okx_355 Hy) (okzx 1379)
theorem anx_1584 (Hy : Hyx tys cA base adS Ex) : xall (fun b t => xOK l Dg clx tys cA flx ftx base adS GWx xyx xcx xnx xrx Ex codex bmx bpx b t) 1 867 1024 codex_1584 :=
  And.intro (okx_867 Hy) (okzx 1891)
theorem anx_1585 (Hy : Hyx tys cA base adS Ex) : xall (fun b t => xOK l Dg clx tys cA flx ftx base adS GWx xyx xcx xnx xrx Ex codex bmx bpx b t) 2 355 512 codex_1585 :=
  And.intro (anx_1583 Hy) (anx_1584 Hy)
theorem anx_1586 (Hy : Hyx tys cA base adS Ex) : xall (fun b t => xOK l Dg clx tys cA flx ftx base adS GWx xyx xcx xnx xrx Ex codex bmx bpx b t) 3 99 256 codex_1586 :=
  And.intro (anx_1582 Hy) (anx_1585 Hy)
theorem anx_1587 (Hy : Hyx tys cA base adS Ex) : xall (fun b t => xOK l Dg clx tys cA flx ftx base adS GWx xyx xcx xnx xrx Ex codex bmx bpx b t) 1 227 1024 codex_1587 :=
  And.intro (okx_227 Hy) (okzx 1251)
theorem anx_1588 (Hy : Hyx tys cA base adS Ex) : xall (fun b t => xOK l Dg clx tys cA flx ftx base adS GWx xyx xcx xnx xrx Ex codex bmx bpx b t) 1 739 1024 codex_1588 :=
  And.intro (okx_739 Hy) (okzx 1763)
theorem anx_1589 (Hy : Hyx tys cA base adS Ex) : xall (fun b t => xOK l Dg clx tys cA flx ftx base adS GWx xyx xcx xnx xrx Ex codex bmx bpx b t) 2 227 512 codex_1589 :=
  And.intro (anx_1587 Hy) (anx_1588 Hy)
theorem anx_1590 (Hy : Hyx tys cA base adS Ex) : xall (fun b t => xOK l Dg clx tys cA flx ftx base adS GWx xyx xcx xnx xrx Ex codex bmx bpx b t) 1 483 1024 codex_1590 :=
  And.intro (okx_483 Hy) (okzx 1507)
theorem anx_1591 (Hy : Hyx tys cA base adS Ex) : xall (fun b t => xOK l Dg clx tys cA flx ftx base adS GWx xyx xcx xnx xrx Ex codex bmx bpx b t) 1 995 1024 codex_1591 :=
  And.intro (okx_995 Hy) (okzx 2019)
theorem anx_1592 (Hy : Hyx tys cA base adS Ex) : xall (fun b t => xOK l Dg clx tys cA flx ftx base adS GWx xyx xcx xnx xrx Ex codex bmx bpx b t) 2 483 512 codex_1592 :=
  And.intro (anx_1590 Hy) (anx_1591 Hy)
theorem anx_1593 (Hy : Hyx tys cA base adS Ex) : xall (fun b t => xOK l Dg clx tys cA flx ftx base adS GWx xyx xcx xnx xrx Ex codex bmx bpx b t) 3 227 256 codex_1593 :=
  And.intro (anx_1589 Hy) (anx_1592 Hy)
theorem anx_1594 (Hy : Hyx tys cA base adS Ex) : xall (fun b t => xOK l Dg clx tys cA flx ftx base adS GWx xyx xcx xnx xrx Ex codex bmx bpx b t) 4 99 128 codex_1594 :=
  And.intro (anx_1586 Hy) (anx_1593 Hy)
theorem anx_1595 (Hy : Hyx tys cA base adS Ex) : xall (fun b t => xOK l Dg clx tys cA flx ftx base adS GWx xyx xcx xnx xrx Ex codex bmx bpx b t) 5 35 64 codex_1595 :=
  And.intro (anx_1579 Hy) (anx_1594 Hy)
theorem anx_1596 (Hy : Hyx tys cA base adS Ex) : xall (fun b t => xOK l Dg clx tys cA flx ftx base adS GWx xyx xcx xnx xrx Ex codex bmx bpx b t) 6 3 32 codex_1596 :=
  And.intro (anx_1564 Hy) (anx_1595 Hy)
theorem anx_1597 (Hy : Hyx tys cA base adS Ex) : xall (fun b t => xOK l Dg clx tys cA flx ftx base adS GWx xyx xcx xnx xrx Ex codex bmx bpx b t) 1 19 1024 codex_1597 :=
  And.intro (okx_19 Hy) (okx_1043 Hy)
theorem anx_1598 (Hy : Hyx tys cA base adS Ex) : xall (fun b t => xOK l Dg clx tys cA flx ftx base adS GWx xyx xcx xnx xrx Ex codex bmx bpx b t) 1 531 1024 codex_1598 :=
  And.intro (okx_531 Hy) (okzx 1555)
theorem anx_1599 (Hy : Hyx tys cA base adS Ex) : xall (fun b t => xOK l Dg clx tys cA flx ftx base adS GWx xyx xcx xnx xrx Ex codex bmx bpx b t) 2 19 512 codex_1599 :=
  And.intro (anx_1597 Hy) (anx_1598 Hy)
theorem anx_1600 (Hy : Hyx tys cA base adS Ex) : xall (fun b t => xOK l Dg clx tys cA flx ftx base adS GWx xyx xcx xnx xrx Ex codex bmx bpx b t) 1 275 1024 codex_1600 :=
  And.intro (okx_275 Hy) (okzx 1299)
theorem anx_1601 (Hy : Hyx tys cA base adS Ex) : xall (fun b t => xOK l Dg clx tys cA flx ftx base adS GWx xyx xcx xnx xrx Ex codex bmx bpx b t) 1 787 1024 codex_1601 :=
  And.intro (okx_787 Hy) (okzx 1811)
theorem anx_1602 (Hy : Hyx tys cA base adS Ex) : xall (fun b t => xOK l Dg clx tys cA flx ftx base adS GWx xyx xcx xnx xrx Ex codex bmx bpx b t) 2 275 512 codex_1602 :=
  And.intro (anx_1600 Hy) (anx_1601 Hy)
theorem anx_1603 (Hy : Hyx tys cA base adS Ex) : xall (fun b t => xOK l Dg clx tys cA flx ftx base adS GWx xyx xcx xnx xrx Ex codex bmx bpx b t) 3 19 256 codex_1603 :=
  And.intro (anx_1599 Hy) (anx_1602 Hy)
theorem anx_1604 (Hy : Hyx tys cA base adS Ex) : xall (fun b t => xOK l Dg clx tys cA flx ftx base adS GWx xyx xcx xnx xrx Ex codex bmx bpx b t) 1 147 1024 codex_1604 :=
  And.intro (okx_147 Hy) (okx_1171 Hy)
theorem anx_1605 (Hy : Hyx tys cA base adS Ex) : xall (fun b t => xOK l Dg clx tys cA flx ftx base adS GWx xyx xcx xnx xrx Ex codex bmx bpx b t) 1 659 1024 codex_1605 :=
  And.intro (okx_659 Hy) (okzx 1683)
theorem anx_1606 (Hy : Hyx tys cA base adS Ex) : xall (fun b t => xOK l Dg clx tys cA flx ftx base adS GWx xyx xcx xnx xrx Ex codex bmx bpx b t) 2 147 512 codex_1606 :=
  And.intro (anx_1604 Hy) (anx_1605 Hy)
theorem anx_1607 (Hy : Hyx tys cA base adS Ex) : xall (fun b t => xOK l Dg clx tys cA flx ftx base adS GWx xyx xcx xnx xrx Ex codex bmx bpx b t) 1 403 1024 codex_1607 :=
  And.intro (okx_403 Hy) (okzx 1427)
theorem anx_1608 (Hy : Hyx tys cA base adS Ex) : xall (fun b t => xOK l Dg clx tys cA flx ftx base adS GWx xyx xcx xnx xrx Ex codex bmx bpx b t) 1 915 1024 codex_1608 :=
  And.intro (okx_915 Hy) (okzx 1939)
theorem anx_1609 (Hy : Hyx tys cA base adS Ex) : xall (fun b t => xOK l Dg clx tys cA flx ftx base adS GWx xyx xcx xnx xrx Ex codex bmx bpx b t) 2 403 512 codex_1609 :=
  And.intro (anx_1607 Hy) (anx_1608 Hy)
theorem anx_1610 (Hy : Hyx tys cA base adS Ex) : xall (fun b t => xOK l Dg clx tys cA flx ftx base adS GWx xyx xcx xnx xrx Ex codex bmx bpx b t) 3 147 256 codex_1610 :=
  And.intro (anx_1606 Hy) (anx_1609 Hy)
theorem anx_1611 (Hy : Hyx tys cA base adS Ex) : xall (fun b t => xOK l Dg clx tys cA flx ftx base adS GWx xyx xcx xnx xrx Ex codex bmx bpx b t) 4 19 128 codex_1611 :=
  And.intro (anx_1603 Hy) (anx_1610 Hy)
theorem anx_1612 (Hy : Hyx tys cA base adS Ex) : xall (fun b t => xOK l Dg clx tys cA flx ftx base adS GWx xyx xcx xnx xrx Ex codex bmx bpx b t) 1 83 1024 codex_1612 :=
  And.intro (okx_83 Hy) (okx_1107 Hy)
theorem anx_1613 (Hy : Hyx tys cA base adS Ex) : xall (fun b t => xOK l Dg clx tys cA flx ftx base adS GWx xyx xcx xnx xrx Ex codex bmx bpx b t) 1 595 1024 codex_1613 :=
  And.intro (okx_595 Hy) (okzx 1619)
theorem anx_1614 (Hy : Hyx tys cA base adS Ex) : xall (fun b t => xOK l Dg clx tys cA flx ftx base adS GWx xyx xcx xnx xrx Ex codex bmx bpx b t) 2 83 512 codex_1614 :=
  And.intro (anx_1612 Hy) (anx_1613 Hy)
theorem anx_1615 (Hy : Hyx tys cA base adS Ex) : xall (fun b t => xOK l Dg clx tys cA flx ftx base adS GWx xyx xcx xnx xrx Ex codex bmx bpx b t) 1 339 1024 codex_1615 :=
  And.intro (okx_339 Hy) (okzx 1363)
theorem anx_1616 (Hy : Hyx tys cA base adS Ex) : xall (fun b t => xOK l Dg clx tys cA flx ftx base adS GWx xyx xcx xnx xrx Ex codex bmx bpx b t) 1 851 1024 codex_1616 :=
  And.intro (okx_851 Hy) (okzx 1875)
theorem anx_1617 (Hy : Hyx tys cA base adS Ex) : xall (fun b t => xOK l Dg clx tys cA flx ftx base adS GWx xyx xcx xnx xrx Ex codex bmx bpx b t) 2 339 512 codex_1617 :=
  And.intro (anx_1615 Hy) (anx_1616 Hy)
theorem anx_1618 (Hy : Hyx tys cA base adS Ex) : xall (fun b t => xOK l Dg clx tys cA flx ftx base adS GWx xyx xcx xnx xrx Ex codex bmx bpx b t) 3 83 256 codex_1618 :=
  And.intro (anx_1614 Hy) (anx_1617 Hy)
theorem anx_1619 (Hy : Hyx tys cA base adS Ex) : xall (fun b t => xOK l Dg clx tys cA flx ftx base adS GWx xyx xcx xnx xrx Ex codex bmx bpx b t) 1 211 1024 codex_1619 :=
  And.intro (okx_211 Hy) (okzx 1235)
theorem anx_1620 (Hy : Hyx tys cA base adS Ex) : xall (fun b t => xOK l Dg clx tys cA flx ftx base adS GWx xyx xcx xnx xrx Ex codex bmx bpx b t) 1 723 1024 codex_1620 :=
  And.intro (okx_723 Hy) (okzx 1747)
theorem anx_1621 (Hy : Hyx tys cA base adS Ex) : xall (fun b t => xOK l Dg clx tys cA flx ftx base adS GWx xyx xcx xnx xrx Ex codex bmx bpx b t) 2 211 512 codex_1621 :=
  And.intro (anx_1619 Hy) (anx_1620 Hy)
theorem anx_1622 (Hy : Hyx tys cA base adS Ex) : xall (fun b t => xOK l Dg clx tys cA flx ftx base adS GWx xyx xcx xnx xrx Ex codex bmx bpx b t) 1 467 1024 codex_1622 :=
  And.intro (okx_467 Hy) (okzx 1491)
theorem anx_1623 (Hy : Hyx tys cA base adS Ex) : xall (fun b t => xOK l Dg clx tys cA flx ftx base adS GWx xyx xcx xnx xrx Ex codex bmx bpx b t) 1 979 1024 codex_1623 :=
  And.intro (okx_979 Hy) (okzx 2003)
theorem anx_1624 (Hy : Hyx tys cA base adS Ex) : xall (fun b t => xOK l Dg clx tys cA flx ftx base adS GWx xyx xcx xnx xrx Ex codex bmx bpx b t) 2 467 512 codex_1624 :=
  And.intro (anx_1622 Hy) (anx_1623 Hy)
theorem anx_1625 (Hy : Hyx tys cA base adS Ex) : xall (fun b t => xOK l Dg clx tys cA flx ftx base adS GWx xyx xcx xnx xrx Ex codex bmx bpx b t) 3 211 256 codex_1625 :=
  And.intro (anx_1621 Hy) (anx_1624 Hy)
theorem anx_1626 (Hy : Hyx tys cA base adS Ex) : xall (fun b t => xOK l Dg clx tys cA flx ftx base adS GWx xyx xcx xnx xrx Ex codex bmx bpx b t) 4 83 128 codex_1626 :=
  And.intro (anx_1618 Hy) (anx_1625 Hy)
theorem anx_1627 (Hy : Hyx tys cA base adS Ex) : xall (fun b t => xOK l Dg clx tys cA flx ftx base adS GWx xyx xcx xnx xrx Ex codex bmx bpx b t) 5 19 64 codex_1627 :=
  And.intro (anx_1611 Hy) (anx_1626 Hy)
theorem anx_1628 (Hy : Hyx tys cA base adS Ex) : xall (fun b t => xOK l Dg clx tys cA flx ftx base adS GWx xyx xcx xnx xrx Ex codex bmx bpx b t) 1 51 1024 codex_1628 :=
  And.intro (okx_51 Hy) (okx_1075 Hy)
theorem anx_1629 (Hy : Hyx tys cA base adS Ex) : xall (fun b t => xOK l Dg clx tys cA flx ftx base adS GWx xyx xcx xnx xrx Ex codex bmx bpx b t) 1 563 1024 codex_1629 :=
  And.intro (okx_563 Hy) (okzx 1587)
theorem anx_1630 (Hy : Hyx tys cA base adS Ex) : xall (fun b t => xOK l Dg clx tys cA flx ftx base adS GWx xyx xcx xnx xrx Ex codex bmx bpx b t) 2 51 512 codex_1630 :=
  And.intro (anx_1628 Hy) (anx_1629 Hy)
theorem anx_1631 (Hy : Hyx tys cA base adS Ex) : xall (fun b t => xOK l Dg clx tys cA flx ftx base adS GWx xyx xcx xnx xrx Ex codex bmx bpx b t) 1 307 1024 codex_1631 :=
  And.intro (okx_307 Hy) (okzx 1331)
theorem anx_1632 (Hy : Hyx tys cA base adS Ex) : xall (fun b t => xOK l Dg clx tys cA flx ftx base adS GWx xyx xcx xnx xrx Ex codex bmx bpx b t) 1 819 1024 codex_1632 :=
  And.intro (okx_819 Hy) (okzx 1843)
theorem anx_1633 (Hy : Hyx tys cA base adS Ex) : xall (fun b t => xOK l Dg clx tys cA flx ftx base adS GWx xyx xcx xnx xrx Ex codex bmx bpx b t) 2 307 512 codex_1633 :=
  And.intro (anx_1631 Hy) (anx_1632 Hy)
theorem anx_1634 (Hy : Hyx tys cA base adS Ex) : xall (fun b t => xOK l Dg clx tys cA flx ftx base adS GWx xyx xcx xnx xrx Ex codex bmx bpx b t) 3 51 256 codex_1634 :=
  And.intro (anx_1630 Hy) (anx_1633 Hy)
theorem anx_1635 (Hy : Hyx tys cA base adS Ex) : xall (fun b t => xOK l Dg clx tys cA flx ftx base adS GWx xyx xcx xnx xrx Ex codex bmx bpx b t) 1 179 1024 codex_1635 :=
  And.intro (okx_179 Hy) (okzx 1203)
theorem anx_1636 (Hy : Hyx tys cA base adS Ex) : xall (fun b t => xOK l Dg clx tys cA flx ftx base adS GWx xyx xcx xnx xrx Ex codex bmx bpx b t) 1 691 1024 codex_1636 :=
  And.intro (okx_691 Hy) (okzx 1715)
theorem anx_1637 (Hy : Hyx tys cA base adS Ex) : xall (fun b t => xOK l Dg clx tys cA flx ftx base adS GWx xyx xcx xnx xrx Ex codex bmx bpx b t) 2 179 512 codex_1637 :=
  And.intro (anx_1635 Hy) (anx_1636 Hy)
theorem anx_1638 (Hy : Hyx tys cA base adS Ex) : xall (fun b t => xOK l Dg clx tys cA flx ftx base adS GWx xyx xcx xnx xrx Ex codex bmx bpx b t) 1 435 1024 codex_1638 :=
  And.intro (okx_435 Hy) (okzx 1459)
theorem anx_1639 (Hy : Hyx tys cA base adS Ex) : xall (fun b t => xOK l Dg clx tys cA flx ftx base adS GWx xyx xcx xnx xrx Ex codex bmx bpx b t) 1 947 1024 codex_1639 :=
  And.intro (okx_947 Hy) (okzx 1971)
theorem anx_1640 (Hy : Hyx tys cA base adS Ex) : xall (fun b t => xOK l Dg clx tys cA flx ftx base adS GWx xyx xcx xnx xrx Ex codex bmx bpx b t) 2 435 512 codex_1640 :=
  And.intro (anx_1638 Hy) (anx_1639 Hy)
theorem anx_1641 (Hy : Hyx tys cA base adS Ex) : xall (fun b t => xOK l Dg clx tys cA flx ftx base adS GWx xyx xcx xnx xrx Ex codex bmx bpx b t) 3 179 256 codex_1641 :=
  And.intro (anx_1637 Hy) (anx_1640 Hy)
theorem anx_1642 (Hy : Hyx tys cA base adS Ex) : xall (fun b t => xOK l Dg clx tys cA flx ftx base adS GWx xyx xcx xnx xrx Ex codex bmx bpx b t) 4 51 128 codex_1642 :=
  And.intro (anx_1634 Hy) (anx_1641 Hy)
theorem anx_1643 (Hy : Hyx tys cA base adS Ex) : xall (fun b t => xOK l Dg clx tys cA flx ftx base adS GWx xyx xcx xnx xrx Ex codex bmx bpx b t) 1 115 1024 codex_1643 :=
  And.intro (okx_115 Hy) (okx_1139 Hy)
theorem anx_1644 (Hy : Hyx tys cA base adS Ex) : xall (fun b t => xOK l Dg clx tys cA flx ftx base adS GWx xyx xcx xnx xrx Ex codex bmx bpx b t) 1 627 1024 codex_1644 :=
  And.intro (okx_627 Hy) (okzx 1651)
theorem anx_1645 (Hy : Hyx tys cA base adS Ex) : xall (fun b t => xOK l Dg clx tys cA flx ftx base adS GWx xyx xcx xnx xrx Ex codex bmx bpx b t) 2 115 512 codex_1645 :=
  And.intro (anx_1643 Hy) (anx_1644 Hy)
theorem anx_1646 (Hy : Hyx tys cA base adS Ex) : xall (fun b t => xOK l Dg clx tys cA flx ftx base adS GWx xyx xcx xnx xrx Ex codex bmx bpx b t) 1 371 1024 codex_1646 :=
  And.intro (okx_371 Hy) (okzx 1395)
theorem anx_1647 (Hy : Hyx tys cA base adS Ex) : xall (fun b t => xOK l Dg clx tys cA flx ftx base adS GWx xyx xcx xnx xrx Ex codex bmx bpx b t) 1 883 1024 codex_1647 :=
  And.intro (okx_883 Hy) (okzx 1907)
theorem anx_1648 (Hy : Hyx tys cA base adS Ex) : xall (fun b t => xOK l Dg clx tys cA flx ftx base adS GWx xyx xcx xnx xrx Ex codex bmx bpx b t) 2 371 512 codex_1648 :=
  And.intro (anx_1646 Hy) (anx_1647 Hy)
theorem anx_1649 (Hy : Hyx tys cA base adS Ex) : xall (fun b t => xOK l Dg clx tys cA flx ftx base adS GWx xyx xcx xnx xrx Ex codex bmx bpx b t) 3 115 256 codex_1649 :=
  And.intro (anx_1645 Hy) (anx_1648 Hy)
theorem anx_1650 (Hy : Hyx tys cA base adS Ex) : xall (fun b t => xOK l Dg clx tys cA flx ftx base adS GWx xyx xcx xnx xrx Ex codex bmx bpx b t) 1 243 1024 codex_1650 :=
  And.intro (okx_243 Hy) (okzx 1267)
theorem anx_1651 (Hy : Hyx tys cA base adS Ex) : xall (fun b t => xOK l Dg clx tys cA flx ftx base adS GWx xyx xcx xnx xrx Ex codex bmx bpx b t) 1 755 1024 codex_1651 :=
  And.intro (okx_755 Hy) (okzx 1779)
theorem anx_1652 (Hy : Hyx tys cA base adS Ex) : xall (fun b t => xOK l Dg clx tys cA flx ftx base adS GWx xyx xcx xnx xrx Ex codex bmx bpx b t) 2 243 512 codex_1652 :=
  And.intro (anx_1650 Hy) (anx_1651 Hy)
theorem anx_1653 (Hy : Hyx tys cA base adS Ex) : xall (fun b t => xOK l Dg clx tys cA flx ftx base adS GWx xyx xcx xnx xrx Ex codex bmx bpx b t) 1 499 1024 codex_1653 :=
  And.intro (okx_499 Hy) (okzx 1523)
theorem anx_1654 (Hy : Hyx tys cA base adS Ex) : xall (fun b t => xOK l Dg clx tys cA flx ftx base adS GWx xyx xcx xnx xrx Ex codex bmx bpx b t) 1 1011 1024 codex_1654 :=
  And.intro (okx_1011 Hy) (okzx 2035)
theorem anx_1655 (Hy : Hyx tys cA base adS Ex) : xall (fun b t => xOK l Dg clx tys cA flx ftx base adS GWx xyx xcx xnx xrx Ex codex bmx bpx b t) 2 499 512 codex_1655 :=
  And.intro (anx_1653 Hy) (anx_1654 Hy)
theorem anx_1656 (Hy : Hyx tys cA base adS Ex) : xall (fun b t => xOK l Dg clx tys cA flx ftx base adS GWx xyx xcx xnx xrx Ex codex bmx bpx b t) 3 243 256 codex_1656 :=
  And.intro (anx_1652 Hy) (anx_1655 Hy)
theorem anx_1657 (Hy : Hyx tys cA base adS Ex) : xall (fun b t => xOK l Dg clx tys cA flx ftx base adS GWx xyx xcx xnx xrx Ex codex bmx bpx b t) 4 115 128 codex_1657 :=
  And.intro (anx_1649 Hy) (anx_1656 Hy)
theorem anx_1658 (Hy : Hyx tys cA base adS Ex) : xall (fun b t => xOK l Dg clx tys cA flx ftx base adS GWx xyx xcx xnx xrx Ex codex bmx bpx b t) 5 51 64 codex_1658 :=
  And.intro (anx_1642 Hy) (anx_1657 Hy)
theorem anx_1659 (Hy : Hyx tys cA base adS Ex) : xall (fun b t => xOK l Dg clx tys cA flx ftx base adS GWx xyx xcx xnx xrx Ex codex bmx bpx b t) 6 19 32 codex_1659 :=
  And.intro (anx_1627 Hy) (anx_1658 Hy)
theorem anx_1660 (Hy : Hyx tys cA base adS Ex) : xall (fun b t => xOK l Dg clx tys cA flx ftx base adS GWx xyx xcx xnx xrx Ex codex bmx bpx b t) 7 3 16 codex_1660 :=
  And.intro (anx_1596 Hy) (anx_1659 Hy)
theorem anx_1661 (Hy : Hyx tys cA base adS Ex) : xall (fun b t => xOK l Dg clx tys cA flx ftx base adS GWx xyx xcx xnx xrx Ex codex bmx bpx b t) 1 11 1024 codex_1661 :=
  And.intro (okx_11 Hy) (okx_1035 Hy)
theorem anx_1662 (Hy : Hyx tys cA base adS Ex) : xall (fun b t => xOK l Dg clx tys cA flx ftx base adS GWx xyx xcx xnx xrx Ex codex bmx bpx b t) 1 523 1024 codex_1662 :=
  And.intro (okx_523 Hy) (okzx 1547)
theorem anx_1663 (Hy : Hyx tys cA base adS Ex) : xall (fun b t => xOK l Dg clx tys cA flx ftx base adS GWx xyx xcx xnx xrx Ex codex bmx bpx b t) 2 11 512 codex_1663 :=
  And.intro (anx_1661 Hy) (anx_1662 Hy)
theorem anx_1664 (Hy : Hyx tys cA base adS Ex) : xall (fun b t => xOK l Dg clx tys cA flx ftx base adS GWx xyx xcx xnx xrx Ex codex bmx bpx b t) 1 267 1024 codex_1664 :=
  And.intro (okx_267 Hy) (okzx 1291)
theorem anx_1665 (Hy : Hyx tys cA base adS Ex) : xall (fun b t => xOK l Dg clx tys cA flx ftx base adS GWx xyx xcx xnx xrx Ex codex bmx bpx b t) 1 779 1024 codex_1665 :=
  And.intro (okx_779 Hy) (okzx 1803)
theorem anx_1666 (Hy : Hyx tys cA base adS Ex) : xall (fun b t => xOK l Dg clx tys cA flx ftx base adS GWx xyx xcx xnx xrx Ex codex bmx bpx b t) 2 267 512 codex_1666 :=
  And.intro (anx_1664 Hy) (anx_1665 Hy)
theorem anx_1667 (Hy : Hyx tys cA base adS Ex) : xall (fun b t => xOK l Dg clx tys cA flx ftx base adS GWx xyx xcx xnx xrx Ex codex bmx bpx b t) 3 11 256 codex_1667 :=
  And.intro (anx_1663 Hy) (anx_1666 Hy)
theorem anx_1668 (Hy : Hyx tys cA base adS Ex) : xall (fun b t => xOK l Dg clx tys cA flx ftx base adS GWx xyx xcx xnx xrx Ex codex bmx bpx b t) 1 139 1024 codex_1668 :=
  And.intro (okx_139 Hy) (okx_1163 Hy)
theorem anx_1669 (Hy : Hyx tys cA base adS Ex) : xall (fun b t => xOK l Dg clx tys cA flx ftx base adS GWx xyx xcx xnx xrx Ex codex bmx bpx b t) 1 651 1024 codex_1669 :=
  And.intro (okx_651 Hy) (okzx 1675)
theorem anx_1670 (Hy : Hyx tys cA base adS Ex) : xall (fun b t => xOK l Dg clx tys cA flx ftx base adS GWx xyx xcx xnx xrx Ex codex bmx bpx b t) 2 139 512 codex_1670 :=
  And.intro (anx_1668 Hy) (anx_1669 Hy)
theorem anx_1671 (Hy : Hyx tys cA base adS Ex) : xall (fun b t => xOK l Dg clx tys cA flx ftx base adS GWx xyx xcx xnx xrx Ex codex bmx bpx b t) 1 395 1024 codex_1671 :=
  And.intro (okx_395 Hy) (okzx 1419)
theorem anx_1672 (Hy : Hyx tys cA base adS Ex) : xall (fun b t => xOK l Dg clx tys cA flx ftx base adS GWx xyx xcx xnx xrx Ex codex bmx bpx b t) 1 907 1024 codex_1672 :=
  And.intro (okx_907 Hy) (okzx 1931)
theorem anx_1673 (Hy : Hyx tys cA base adS Ex) : xall (fun b t => xOK l Dg clx tys cA flx ftx base adS GWx xyx xcx xnx xrx Ex codex bmx bpx b t) 2 395 512 codex_1673 :=
  And.intro (anx_1671 Hy) (anx_1672 Hy)
theorem anx_1674 (Hy : Hyx tys cA base adS Ex) : xall (fun b t => xOK l Dg clx tys cA flx ftx base adS GWx xyx xcx xnx xrx Ex codex bmx bpx b t) 3 139 256 codex_1674 :=
  And.intro (anx_1670 Hy) (anx_1673 Hy)
theorem anx_1675 (Hy : Hyx tys cA base adS Ex) : xall (fun b t => xOK l Dg clx tys cA flx ftx base adS GWx xyx xcx xnx xrx Ex codex bmx bpx b t) 4 11 128 codex_1675 :=
  And.intro (anx_1667 Hy) (anx_1674 Hy)
theorem anx_1676 (Hy : Hyx tys cA base adS Ex) : xall (fun b t => xOK l Dg clx tys cA flx ftx base adS GWx xyx xcx xnx xrx Ex codex bmx bpx b t) 1 75 1024 codex_1676 :=
  And.intro (okx_75 Hy) (okx_1099 Hy)
theorem anx_1677 (Hy : Hyx tys cA base adS Ex) : xall (fun b t => xOK l Dg clx tys cA flx ftx base adS GWx xyx xcx xnx xrx Ex codex bmx bpx b t) 1 587 1024 codex_1677 :=
  And.intro (okx_587 Hy) (okzx 1611)
theorem anx_1678 (Hy : Hyx tys cA base adS Ex) : xall (fun b t => xOK l Dg clx tys cA flx ftx base adS GWx xyx xcx xnx xrx Ex codex bmx bpx b t) 2 75 512 codex_1678 :=
  And.intro (anx_1676 Hy) (anx_1677 Hy)
theorem anx_1679 (Hy : Hyx tys cA base adS Ex) : xall (fun b t => xOK l Dg clx tys cA flx ftx base adS GWx xyx xcx xnx xrx Ex codex bmx bpx b t) 1 331 1024 codex_1679 :=
  And.intro (okx_331 Hy) (okzx 1355)
theorem anx_1680 (Hy : Hyx tys cA base adS Ex) : xall (fun b t => xOK l Dg clx tys cA flx ftx base adS GWx xyx xcx xnx xrx Ex codex bmx bpx b t) 1 843 1024 codex_1680 :=
  And.intro (okx_843 Hy) (okzx 1867)
theorem anx_1681 (Hy : Hyx tys cA base adS Ex) : xall (fun b t => xOK l Dg clx tys cA flx ftx base adS GWx xyx xcx xnx xrx Ex codex bmx bpx b t) 2 331 512 codex_1681 :=
  And.intro (anx_1679 Hy) (anx_1680 Hy)
theorem anx_1682 (Hy : Hyx tys cA base adS Ex) : xall (fun b t => xOK l Dg clx tys cA flx ftx base adS GWx xyx xcx xnx xrx Ex codex bmx bpx b t) 3 75 256 codex_1682 :=
  And.intro (anx_1678 Hy) (anx_1681 Hy)
theorem anx_1683 (Hy : Hyx tys cA base adS Ex) : xall (fun b t => xOK l Dg clx tys cA flx ftx base adS GWx xyx xcx xnx xrx Ex codex bmx bpx b t) 1 203 1024 codex_1683 :=
  And.intro (okx_203 Hy) (okzx 1227)
theorem anx_1684 (Hy : Hyx tys cA base adS Ex) : xall (fun b t => xOK l Dg clx tys cA flx ftx base adS GWx xyx xcx xnx xrx Ex codex bmx bpx b t) 1 715 1024 codex_1684 :=
  And.intro (okx_715 Hy) (okzx 1739)
theorem anx_1685 (Hy : Hyx tys cA base adS Ex) : xall (fun b t => xOK l Dg clx tys cA flx ftx base adS GWx xyx xcx xnx xrx Ex codex bmx bpx b t) 2 203 512 codex_1685 :=
  And.intro (anx_1683 Hy) (anx_1684 Hy)
theorem anx_1686 (Hy : Hyx tys cA base adS Ex) : xall (fun b t => xOK l Dg clx tys cA flx ftx base adS GWx xyx xcx xnx xrx Ex codex bmx bpx b t) 1 459 1024 codex_1686 :=
  And.intro (okx_459 Hy) (okzx 1483)
theorem anx_1687 (Hy : Hyx tys cA base adS Ex) : xall (fun b t => xOK l Dg clx tys cA flx ftx base adS GWx xyx xcx xnx xrx Ex codex bmx bpx b t) 1 971 1024 codex_1687 :=
  And.intro (okx_971 Hy) (okzx 1995)
theorem anx_1688 (Hy : Hyx tys cA base adS Ex) : xall (fun b t => xOK l Dg clx tys cA flx ftx base adS GWx xyx xcx xnx xrx Ex codex bmx bpx b t) 2 459 512 codex_1688 :=
  And.intro (anx_1686 Hy) (anx_1687 Hy)
theorem anx_1689 (Hy : Hyx tys cA base adS Ex) : xall (fun b t => xOK l Dg clx tys cA flx ftx base adS GWx xyx xcx xnx xrx Ex codex bmx bpx b t) 3 203 256 codex_1689 :=
  And.intro (anx_1685 Hy) (anx_1688 Hy)
theorem anx_1690 (Hy : Hyx tys cA base adS Ex) : xall (fun b t => xOK l Dg clx tys cA flx ftx base adS GWx xyx xcx xnx xrx Ex codex bmx bpx b t) 4 75 128 codex_1690 :=
  And.intro (anx_1682 Hy) (anx_1689 Hy)
theorem anx_1691 (Hy : Hyx tys cA base adS Ex) : xall (fun b t => xOK l Dg clx tys cA flx ftx base adS GWx xyx xcx xnx xrx Ex codex bmx bpx b t) 5 11 64 codex_1691 :=
  And.intro (anx_1675 Hy) (anx_1690 Hy)
theorem anx_1692 (Hy : Hyx tys cA base adS Ex) : xall (fun b t => xOK l Dg clx tys cA flx ftx base adS GWx xyx xcx xnx xrx Ex codex bmx bpx b t) 1 43 1024 codex_1692 :=
  And.intro (okx_43 Hy) (okx_1067 Hy)
theorem anx_1693 (Hy : Hyx tys cA base adS Ex) : xall (fun b t => xOK l Dg clx tys cA flx ftx base adS GWx xyx xcx xnx xrx Ex codex bmx bpx b t) 1 555 1024 codex_1693 :=
  And.intro (okx_555 Hy) (okzx 1579)
theorem anx_1694 (Hy : Hyx tys cA base adS Ex) : xall (fun b t => xOK l Dg clx tys cA flx ftx base adS GWx xyx xcx xnx xrx Ex codex bmx bpx b t) 2 43 512 codex_1694 :=
  And.intro (anx_1692 Hy) (anx_1693 Hy)
theorem anx_1695 (Hy : Hyx tys cA base adS Ex) : xall (fun b t => xOK l Dg clx tys cA flx ftx base adS GWx xyx xcx xnx xrx Ex codex bmx bpx b t) 1 299 1024 codex_1695 :=
  And.intro (okx_299 Hy) (okzx 1323)
theorem anx_1696 (Hy : Hyx tys cA base adS Ex) : xall (fun b t => xOK l Dg clx tys cA flx ftx base adS GWx xyx xcx xnx xrx Ex codex bmx bpx b t) 1 811 1024 codex_1696 :=
  And.intro (okx_811 Hy) (okzx 1835)
theorem anx_1697 (Hy : Hyx tys cA base adS Ex) : xall (fun b t => xOK l Dg clx tys cA flx ftx base adS GWx xyx xcx xnx xrx Ex codex bmx bpx b t) 2 299 512 codex_1697 :=
  And.intro (anx_1695 Hy) (anx_1696 Hy)
theorem anx_1698 (Hy : Hyx tys cA base adS Ex) : xall (fun b t => xOK l Dg clx tys cA flx ftx base adS GWx xyx xcx xnx xrx Ex codex bmx bpx b t) 3 43 256 codex_1698 :=
  And.intro (anx_1694 Hy) (anx_1697 Hy)
theorem anx_1699 (Hy : Hyx tys cA base adS Ex) : xall (fun b t => xOK l Dg clx tys cA flx ftx base adS GWx xyx xcx xnx xrx Ex codex bmx bpx b t) 1 171 1024 codex_1699 :=
  And.intro (okx_171 Hy) (okzx 1195)
theorem anx_1700 (Hy : Hyx tys cA base adS Ex) : xall (fun b t => xOK l Dg clx tys cA flx ftx base adS GWx xyx xcx xnx xrx Ex codex bmx bpx b t) 1 683 1024 codex_1700 :=
  And.intro (okx_683 Hy) (okzx 1707)
theorem anx_1701 (Hy : Hyx tys cA base adS Ex) : xall (fun b t => xOK l Dg clx tys cA flx ftx base adS GWx xyx xcx xnx xrx Ex codex bmx bpx b t) 2 171 512 codex_1701 :=
  And.intro (anx_1699 Hy) (anx_1700 Hy)
theorem anx_1702 (Hy : Hyx tys cA base adS Ex) : xall (fun b t => xOK l Dg clx tys cA flx ftx base adS GWx xyx xcx xnx xrx Ex codex bmx bpx b t) 1 427 1024 codex_1702 :=
  And.intro (okx_427 Hy) (okzx 1451)
theorem anx_1703 (Hy : Hyx tys cA base adS Ex) : xall (fun b t => xOK l Dg clx tys cA flx ftx base adS GWx xyx xcx xnx xrx Ex codex bmx bpx b t) 1 939 1024 codex_1703 :=
  And.intro (okx_939 Hy) (okzx 1963)
theorem anx_1704 (Hy : Hyx tys cA base adS Ex) : xall (fun b t => xOK l Dg clx tys cA flx ftx base adS GWx xyx xcx xnx xrx Ex codex bmx bpx b t) 2 427 512 codex_1704 :=
  And.intro (anx_1702 Hy) (anx_1703 Hy)
theorem anx_1705 (Hy : Hyx tys cA base adS Ex) : xall (fun b t => xOK l Dg clx tys cA flx ftx base adS GWx xyx xcx xnx xrx Ex codex bmx bpx b t) 3 171 256 codex_1705 :=
  And.intro (anx_1701 Hy) (anx_1704 Hy)
theorem anx_1706 (Hy : Hyx tys cA base adS Ex) : xall (fun b t => xOK l Dg clx tys cA flx ftx base adS GWx xyx xcx xnx xrx Ex codex bmx bpx b t) 4 43 128 codex_1706 :=
  And.intro (anx_1698 Hy) (anx_1705 Hy)
theorem anx_1707 (Hy : Hyx tys cA base adS Ex) : xall (fun b t => xOK l Dg clx tys cA flx ftx base adS GWx xyx xcx xnx xrx Ex codex bmx bpx b t) 1 107 1024 codex_1707 :=
  And.intro (okx_107 Hy) (okx_1131 Hy)
theorem anx_1708 (Hy : Hyx tys cA base adS Ex) : xall (fun b t => xOK l Dg clx tys cA flx ftx base adS GWx xyx xcx xnx xrx Ex codex bmx bpx b t) 1 619 1024 codex_1708 :=
  And.intro (okx_619 Hy) (okzx 1643)
theorem anx_1709 (Hy : Hyx tys cA base adS Ex) : xall (fun b t => xOK l Dg clx tys cA flx ftx base adS GWx xyx xcx xnx xrx Ex codex bmx bpx b t) 2 107 512 codex_1709 :=
  And.intro (anx_1707 Hy) (anx_1708 Hy)
theorem anx_1710 (Hy : Hyx tys cA base adS Ex) : xall (fun b t => xOK l Dg clx tys cA flx ftx base adS GWx xyx xcx xnx xrx Ex codex bmx bpx b t) 1 363 1024 codex_1710 :=
  And.intro (okx_363 Hy) (okzx 1387)
theorem anx_1711 (Hy : Hyx tys cA base adS Ex) : xall (fun b t => xOK l Dg clx tys cA flx ftx base adS GWx xyx xcx xnx xrx Ex codex bmx bpx b t) 1 875 1024 codex_1711 :=
  And.intro (okx_875 Hy) (okzx 1899)
theorem anx_1712 (Hy : Hyx tys cA base adS Ex) : xall (fun b t => xOK l Dg clx tys cA flx ftx base adS GWx xyx xcx xnx xrx Ex codex bmx bpx b t) 2 363 512 codex_1712 :=
  And.intro (anx_1710 Hy) (anx_1711 Hy)
theorem anx_1713 (Hy : Hyx tys cA base adS Ex) : xall (fun b t => xOK l Dg clx tys cA flx ftx base adS GWx xyx xcx xnx xrx Ex codex bmx bpx b t) 3 107 256 codex_1713 :=
  And.intro (anx_1709 Hy) (anx_1712 Hy)
theorem anx_1714 (Hy : Hyx tys cA base adS Ex) : xall (fun b t => xOK l Dg clx tys cA flx ftx base adS GWx xyx xcx xnx xrx Ex codex bmx bpx b t) 1 235 1024 codex_1714 :=
  And.intro (okx_235 Hy) (okzx 1259)
theorem anx_1715 (Hy : Hyx tys cA base adS Ex) : xall (fun b t => xOK l Dg clx tys cA flx ftx base adS GWx xyx xcx xnx xrx Ex codex bmx bpx b t) 1 747 1024 codex_1715 :=
  And.intro (okx_747 Hy) (okzx 1771)
theorem anx_1716 (Hy : Hyx tys cA base adS Ex) : xall (fun b t => xOK l Dg clx tys cA flx ftx base adS GWx xyx xcx xnx xrx Ex codex bmx bpx b t) 2 235 512 codex_1716 :=
  And.intro (anx_1714 Hy) (anx_1715 Hy)
theorem anx_1717 (Hy : Hyx tys cA base adS Ex) : xall (fun b t => xOK l Dg clx tys cA flx ftx base adS GWx xyx xcx xnx xrx Ex codex bmx bpx b t) 1 491 1024 codex_1717 :=
  And.intro (okx_491 Hy) (okzx 1515)
theorem anx_1718 (Hy : Hyx tys cA base adS Ex) : xall (fun b t => xOK l Dg clx tys cA flx ftx base adS GWx xyx xcx xnx xrx Ex codex bmx bpx b t) 1 1003 1024 codex_1718 :=
  And.intro (okx_1003 Hy) (okzx 2027)
theorem anx_1719 (Hy : Hyx tys cA base adS Ex) : xall (fun b t => xOK l Dg clx tys cA flx ftx base adS GWx xyx xcx xnx xrx Ex codex bmx bpx b t) 2 491 512 codex_1719 :=
  And.intro (anx_1717 Hy) (anx_1718 Hy)
theorem anx_1720 (Hy : Hyx tys cA base adS Ex) : xall (fun b t => xOK l Dg clx tys cA flx ftx base adS GWx xyx xcx xnx xrx Ex codex bmx bpx b t) 3 235 256 codex_1720 :=
  And.intro (anx_1716 Hy) (anx_1719 Hy)
theorem anx_1721 (Hy : Hyx tys cA base adS Ex) : xall (fun b t => xOK l Dg clx tys cA flx ftx base adS GWx xyx xcx xnx xrx Ex codex bmx bpx b t) 4 107 128 codex_1721 :=
  And.intro (anx_1713 Hy) (anx_1720 Hy)
theorem anx_1722 (Hy : Hyx tys cA base adS Ex) : xall (fun b t => xOK l Dg clx tys cA flx ftx base adS GWx xyx xcx xnx xrx Ex codex bmx bpx b t) 5 43 64 codex_1722 :=
  And.intro (anx_1706 Hy) (anx_1721 Hy)
theorem anx_1723 (Hy : Hyx tys cA base adS Ex) : xall (fun b t => xOK l Dg clx tys cA flx ftx base adS GWx xyx xcx xnx xrx Ex codex bmx bpx b t) 6 11 32 codex_1723 :=
  And.intro (anx_1691 Hy) (anx_1722 Hy)
theorem anx_1724 (Hy : Hyx tys cA base adS Ex) : xall (fun b t => xOK l Dg clx tys cA flx ftx base adS GWx xyx xcx xnx xrx Ex codex bmx bpx b t) 1 27 1024 codex_1724 :=
  And.intro (okx_27 Hy) (okx_1051 Hy)
theorem anx_1725 (Hy : Hyx tys cA base adS Ex) : xall (fun b t => xOK l Dg clx tys cA flx ftx base adS GWx xyx xcx xnx xrx Ex codex bmx bpx b t) 1 539 1024 codex_1725 :=
  And.intro (okx_539 Hy) (okzx 1563)
theorem anx_1726 (Hy : Hyx tys cA base adS Ex) : xall (fun b t => xOK l Dg clx tys cA flx ftx base adS GWx xyx xcx xnx xrx Ex codex bmx bpx b t) 2 27 512 codex_1726 :=
  And.intro (anx_1724 Hy) (anx_1725 Hy)
theorem anx_1727 (Hy : Hyx tys cA base adS Ex) : xall (fun b t => xOK l Dg clx tys cA flx ftx base adS GWx xyx xcx xnx xrx Ex codex bmx bpx b t) 1 283 1024 codex_1727 :=
  And.intro (okx_283 Hy) (okzx 1307)
theorem anx_1728 (Hy : Hyx tys cA base adS Ex) : xall (fun b t => xOK l Dg clx tys cA flx ftx base adS GWx xyx xcx xnx xrx Ex codex bmx bpx b t) 1 795 1024 codex_1728 :=
  And.intro (okx_795 Hy) (okzx 1819)
theorem anx_1729 (Hy : Hyx tys cA base adS Ex) : xall (fun b t => xOK l Dg clx tys cA flx ftx base adS GWx xyx xcx xnx xrx Ex codex bmx bpx b t) 2 283 512 codex_1729 :=
  And.intro (anx_1727 Hy) (anx_1728 Hy)
theorem anx_1730 (Hy : Hyx tys cA base adS Ex) : xall (fun b t => xOK l Dg clx tys cA flx ftx base adS GWx xyx xcx xnx xrx Ex codex bmx bpx b t) 3 27 256 codex_1730 :=
  And.intro (anx_1726 Hy) (anx_1729 Hy)
theorem anx_1731 (Hy : Hyx tys cA base adS Ex) : xall (fun b t => xOK l Dg clx tys cA flx ftx base adS GWx xyx xcx xnx xrx Ex codex bmx bpx b t) 1 155 1024 codex_1731 :=
  And.intro (okx_155 Hy) (okx_1179 Hy)
theorem anx_1732 (Hy : Hyx tys cA base adS Ex) : xall (fun b t => xOK l Dg clx tys cA flx ftx base adS GWx xyx xcx xnx xrx Ex codex bmx bpx b t) 1 667 1024 codex_1732 :=
  And.intro (okx_667 Hy) (okzx 1691)
theorem anx_1733 (Hy : Hyx tys cA base adS Ex) : xall (fun b t => xOK l Dg clx tys cA flx ftx base adS GWx xyx xcx xnx xrx Ex codex bmx bpx b t) 2 155 512 codex_1733 :=
  And.intro (anx_1731 Hy) (anx_1732 Hy)
theorem anx_1734 (Hy : Hyx tys cA base adS Ex) : xall (fun b t => xOK l Dg clx tys cA flx ftx base adS GWx xyx xcx xnx xrx Ex codex bmx bpx b t) 1 411 1024 codex_1734 :=
  And.intro (okx_411 Hy) (okzx 1435)
theorem anx_1735 (Hy : Hyx tys cA base adS Ex) : xall (fun b t => xOK l Dg clx tys cA flx ftx base adS GWx xyx xcx xnx xrx Ex codex bmx bpx b t) 1 923 1024 codex_1735 :=
  And.intro (okx_923 Hy) (okzx 1947)
theorem anx_1736 (Hy : Hyx tys cA base adS Ex) : xall (fun b t => xOK l Dg clx tys cA flx ftx base adS GWx xyx xcx xnx xrx Ex codex bmx bpx b t) 2 411 512 codex_1736 :=
  And.intro (anx_1734 Hy) (anx_1735 Hy)
theorem anx_1737 (Hy : Hyx tys cA base adS Ex) : xall (fun b t => xOK l Dg clx tys cA flx ftx base adS GWx xyx xcx xnx xrx Ex codex bmx bpx b t) 3 155 256 codex_1737 :=
  And.intro (anx_1733 Hy) (anx_1736 Hy)
theorem anx_1738 (Hy : Hyx tys cA base adS Ex) : xall (fun b t => xOK l Dg clx tys cA flx ftx base adS GWx xyx xcx xnx xrx Ex codex bmx bpx b t) 4 27 128 codex_1738 :=
  And.intro (anx_1730 Hy) (anx_1737 Hy)
theorem anx_1739 (Hy : Hyx tys cA base adS Ex) : xall (fun b t => xOK l Dg clx tys cA flx ftx base adS GWx xyx xcx xnx xrx Ex codex bmx bpx b t) 1 91 1024 codex_1739 :=
  And.intro (okx_91 Hy) (okx_1115 Hy)
theorem anx_1740 (Hy : Hyx tys cA base adS Ex) : xall (fun b t => xOK l Dg clx tys cA flx ftx base adS GWx xyx xcx xnx xrx Ex codex bmx bpx b t) 1 603 1024 codex_1740 :=
  And.intro (okx_603 Hy) (okzx 1627)
theorem anx_1741 (Hy : Hyx tys cA base adS Ex) : xall (fun b t => xOK l Dg clx tys cA flx ftx base adS GWx xyx xcx xnx xrx Ex codex bmx bpx b t) 2 91 512 codex_1741 :=
  And.intro (anx_1739 Hy) (anx_1740 Hy)
theorem anx_1742 (Hy : Hyx tys cA base adS Ex) : xall (fun b t => xOK l Dg clx tys cA flx ftx base adS GWx xyx xcx xnx xrx Ex codex bmx bpx b t) 1 347 1024 codex_1742 :=
  And.intro (okx_347 Hy) (okzx 1371)
theorem anx_1743 (Hy : Hyx tys cA base adS Ex) : xall (fun b t => xOK l Dg clx tys cA flx ftx base adS GWx xyx xcx xnx xrx Ex codex bmx bpx b t) 1 859 1024 codex_1743 :=
  And.intro (okx_859 Hy) (okzx 1883)
theorem anx_1744 (Hy : Hyx tys cA base adS Ex) : xall (fun b t => xOK l Dg clx tys cA flx ftx base adS GWx xyx xcx xnx xrx Ex codex bmx bpx b t) 2 347 512 codex_1744 :=
  And.intro (anx_1742 Hy) (anx_1743 Hy)
theorem anx_1745 (Hy : Hyx tys cA base adS Ex) : xall (fun b t => xOK l Dg clx tys cA flx ftx base adS GWx xyx xcx xnx xrx Ex codex bmx bpx b t) 3 91 256 codex_1745 :=
  And.intro (anx_1741 Hy) (anx_1744 Hy)
theorem anx_1746 (Hy : Hyx tys cA base adS Ex) : xall (fun b t => xOK l Dg clx tys cA flx ftx base adS GWx xyx xcx xnx xrx Ex codex bmx bpx b t) 1 219 1024 codex_1746 :=
  And.intro (okx_219 Hy) (okzx 1243)
theorem anx_1747 (Hy : Hyx tys cA base adS Ex) : xall (fun b t => xOK l Dg clx tys cA flx ftx base adS GWx xyx xcx xnx xrx Ex codex bmx bpx b t) 1 731 1024 codex_1747 :=
  And.intro (okx_731 Hy) (okzx 1755)
theorem anx_1748 (Hy : Hyx tys cA base adS Ex) : xall (fun b t => xOK l Dg clx tys cA flx ftx base adS GWx xyx xcx xnx xrx Ex codex bmx bpx b t) 2 219 512 codex_1748 :=
  And.intro (anx_1746 Hy) (anx_1747 Hy)
theorem anx_1749 (Hy : Hyx tys cA base adS Ex) : xall (fun b t => xOK l Dg clx tys cA flx ftx base adS GWx xyx xcx xnx xrx Ex codex bmx bpx b t) 1 475 1024 codex_1749 :=
  And.intro (okx_475 Hy) (okzx 1499)
theorem anx_1750 (Hy : Hyx tys cA base adS Ex) : xall (fun b t => xOK l Dg clx tys cA flx ftx base adS GWx xyx xcx xnx xrx Ex codex bmx bpx b t) 1 987 1024 codex_1750 :=
  And.intro (okx_987 Hy) (okzx 2011)
theorem anx_1751 (Hy : Hyx tys cA base adS Ex) : xall (fun b t => xOK l Dg clx tys cA flx ftx base adS GWx xyx xcx xnx xrx Ex codex bmx bpx b t) 2 475 512 codex_1751 :=
  And.intro (anx_1749 Hy) (anx_1750 Hy)
theorem anx_1752 (Hy : Hyx tys cA base adS Ex) : xall (fun b t => xOK l Dg clx tys cA flx ftx base adS GWx xyx xcx xnx xrx Ex codex bmx bpx b t) 3 219 256 codex_1752 :=
  And.intro (anx_1748 Hy) (anx_1751 Hy)
theorem anx_1753 (Hy : Hyx tys cA base adS Ex) : xall (fun b t => xOK l Dg clx tys cA flx ftx base adS GWx xyx xcx xnx xrx Ex codex bmx bpx b t) 4 91 128 codex_1753 :=
  And.intro (anx_1745 Hy) (anx_1752 Hy)
theorem anx_1754 (Hy : Hyx tys cA base adS Ex) : xall (fun b t => xOK l Dg clx tys cA flx ftx base adS GWx xyx xcx xnx xrx Ex codex bmx bpx b t) 5 27 64 codex_1754 :=
  And.intro (anx_1738 Hy) (anx_1753 Hy)
theorem anx_1755 (Hy : Hyx tys cA base adS Ex) : xall (fun b t => xOK l Dg clx tys cA flx ftx base adS GWx xyx xcx xnx xrx Ex codex bmx bpx b t) 1 59 1024 codex_1755 :=
  And.intro (okx_59 Hy) (okx_1083 Hy)
theorem anx_1756 (Hy : Hyx tys cA base adS Ex) : xall (fun b t => xOK l Dg clx tys cA flx ftx base adS GWx xyx xcx xnx xrx Ex codex bmx bpx b t) 1 571 1024 codex_1756 :=
  And.intro (okx_571 Hy) (okzx 1595)
theorem anx_1757 (Hy : Hyx tys cA base adS Ex) : xall (fun b t => xOK l Dg clx tys cA flx ftx base adS GWx xyx xcx xnx xrx Ex codex bmx bpx b t) 2 59 512 codex_1757 :=
  And.intro (anx_1755 Hy) (anx_1756 Hy)
theorem anx_1758 (Hy : Hyx tys cA base adS Ex) : xall (fun b t => xOK l Dg clx tys cA flx ftx base adS GWx xyx xcx xnx xrx Ex codex bmx bpx b t) 1 315 1024 codex_1758 :=
  And.intro (okx_315 Hy) (okzx 1339)
theorem anx_1759 (Hy : Hyx tys cA base adS Ex) : xall (fun b t => xOK l Dg clx tys cA flx ftx base adS GWx xyx xcx xnx xrx Ex codex bmx bpx b t) 1 827 1024 codex_1759 :=
  And.intro (okx_827 Hy) (okzx 1851)
theorem anx_1760 (Hy : Hyx tys cA base adS Ex) : xall (fun b t => xOK l Dg clx tys cA flx ftx base adS GWx xyx xcx xnx xrx Ex codex bmx bpx b t) 2 315 512 codex_1760 :=
  And.intro (anx_1758 Hy) (anx_1759 Hy)
theorem anx_1761 (Hy : Hyx tys cA base adS Ex) : xall (fun b t => xOK l Dg clx tys cA flx ftx base adS GWx xyx xcx xnx xrx Ex codex bmx bpx b t) 3 59 256 codex_1761 :=
  And.intro (anx_1757 Hy) (anx_1760 Hy)
theorem anx_1762 (Hy : Hyx tys cA base adS Ex) : xall (fun b t => xOK l Dg clx tys cA flx ftx base adS GWx xyx xcx xnx xrx Ex codex bmx bpx b t) 1 187 1024 codex_1762 :=
  And.intro (okx_187 Hy) (okzx 1211)
theorem anx_1763 (Hy : Hyx tys cA base adS Ex) : xall (fun b t => xOK l Dg clx tys cA flx ftx base adS GWx xyx xcx xnx xrx Ex codex bmx bpx b t) 1 699 1024 codex_1763 :=
  And.intro (okx_699 Hy) (okzx 1723)
theorem anx_1764 (Hy : Hyx tys cA base adS Ex) : xall (fun b t => xOK l Dg clx tys cA flx ftx base adS GWx xyx xcx xnx xrx Ex codex bmx bpx b t) 2 187 512 codex_1764 :=
  And.intro (anx_1762 Hy) (anx_1763 Hy)
theorem anx_1765 (Hy : Hyx tys cA base adS Ex) : xall (fun b t => xOK l Dg clx tys cA flx ftx base adS GWx xyx xcx xnx xrx Ex codex bmx bpx b t) 1 443 1024 codex_1765 :=
  And.intro (okx_443 Hy) (okzx 1467)
theorem anx_1766 (Hy : Hyx tys cA base adS Ex) : xall (fun b t => xOK l Dg clx tys cA flx ftx base adS GWx xyx xcx xnx xrx Ex codex bmx bpx b t) 1 955 1024 codex_1766 :=
  And.intro (okx_955 Hy) (okzx 1979)
theorem anx_1767 (Hy : Hyx tys cA base adS Ex) : xall (fun b t => xOK l Dg clx tys cA flx ftx base adS GWx xyx xcx xnx xrx Ex codex bmx bpx b t) 2 443 512 codex_1767 :=
  And.intro (anx_1765 Hy) (anx_1766 Hy)
theorem anx_1768 (Hy : Hyx tys cA base adS Ex) : xall (fun b t => xOK l Dg clx tys cA flx ftx base adS GWx xyx xcx xnx xrx Ex codex bmx bpx b t) 3 187 256 codex_1768 :=
  And.intro (anx_1764 Hy) (anx_1767 Hy)
theorem anx_1769 (Hy : Hyx tys cA base adS Ex) : xall (fun b t => xOK l Dg clx tys cA flx ftx base adS GWx xyx xcx xnx xrx Ex codex bmx bpx b t) 4 59 128 codex_1769 :=
  And.intro (anx_1761 Hy) (anx_1768 Hy)
theorem anx_1770 (Hy : Hyx tys cA base adS Ex) : xall (fun b t => xOK l Dg clx tys cA flx ftx base adS GWx xyx xcx xnx xrx Ex codex bmx bpx b t) 1 123 1024 codex_1770 :=
  And.intro (okx_123 Hy) (okx_1147 Hy)
theorem anx_1771 (Hy : Hyx tys cA base adS Ex) : xall (fun b t => xOK l Dg clx tys cA flx ftx base adS GWx xyx xcx xnx xrx Ex codex bmx bpx b t) 1 635 1024 codex_1771 :=
  And.intro (okx_635 Hy) (okzx 1659)
theorem anx_1772 (Hy : Hyx tys cA base adS Ex) : xall (fun b t => xOK l Dg clx tys cA flx ftx base adS GWx xyx xcx xnx xrx Ex codex bmx bpx b t) 2 123 512 codex_1772 :=
  And.intro (anx_1770 Hy) (anx_1771 Hy)
theorem anx_1773 (Hy : Hyx tys cA base adS Ex) : xall (fun b t => xOK l Dg clx tys cA flx ftx base adS GWx xyx xcx xnx xrx Ex codex bmx bpx b t) 1 379 1024 codex_1773 :=
  And.intro (okx_379 Hy) (okzx 1403)
theorem anx_1774 (Hy : Hyx tys cA base adS Ex) : xall (fun b t => xOK l Dg clx tys cA flx ftx base adS GWx xyx xcx xnx xrx Ex codex bmx bpx b t) 1 891 1024 codex_1774 :=
  And.intro (okx_891 Hy) (okzx 1915)
theorem anx_1775 (Hy : Hyx tys cA base adS Ex) : xall (fun b t => xOK l Dg clx tys cA flx ftx base adS GWx xyx xcx xnx xrx Ex codex bmx bpx b t) 2 379 512 codex_1775 :=
  And.intro (anx_1773 Hy) (anx_1774 Hy)
theorem anx_1776 (Hy : Hyx tys cA base adS Ex) : xall (fun b t => xOK l Dg clx tys cA flx ftx base adS GWx xyx xcx xnx xrx Ex codex bmx bpx b t) 3 123 256 codex_1776 :=
  And.intro (anx_1772 Hy) (anx_1775 Hy)
theorem anx_1777 (Hy : Hyx tys cA base adS Ex) : xall (fun b t => xOK l Dg clx tys cA flx ftx base adS GWx xyx xcx xnx xrx Ex codex bmx bpx b t) 1 251 1024 codex_1777 :=
  And.intro (okx_251 Hy) (okzx 1275)
theorem anx_1778 (Hy : Hyx tys cA base adS Ex) : xall (fun b t => xOK l Dg clx tys cA flx ftx base adS GWx xyx xcx xnx xrx Ex codex bmx bpx b t) 1 763 1024 codex_1778 :=
  And.intro (okx_763 Hy) (okzx 1787)
theorem anx_1779 (Hy : Hyx tys cA base adS Ex) : xall (fun b t => xOK l Dg clx tys cA flx ftx base adS GWx xyx xcx xnx xrx Ex codex bmx bpx b t) 2 251 512 codex_1779 :=
  And.intro (anx_1777 Hy) (anx_1778 Hy)
theorem anx_1780 (Hy : Hyx tys cA base adS Ex) : xall (fun b t => xOK l Dg clx tys cA flx ftx base adS GWx xyx xcx xnx xrx Ex codex bmx bpx b t) 1 507 1024 codex_1780 :=
  And.intro (okx_507 Hy) (okzx 1531)
theorem anx_1781 (Hy : Hyx tys cA base adS Ex) : xall (fun b t => xOK l Dg clx tys cA flx ftx base adS GWx xyx xcx xnx xrx Ex codex bmx bpx b t) 1 1019 1024 codex_1781 :=
  And.intro (okx_1019 Hy) (okzx 2043)
theorem anx_1782 (Hy : Hyx tys cA base adS Ex) : xall (fun b t => xOK l Dg clx tys cA flx ftx base adS GWx xyx xcx xnx xrx Ex codex bmx bpx b t) 2 507 512 codex_1782 :=
  And.intro (anx_1780 Hy) (anx_1781 Hy)
theorem anx_1783 (Hy : Hyx tys cA base adS Ex) : xall (fun b t => xOK l Dg clx tys cA flx ftx base adS GWx xyx xcx xnx xrx Ex codex bmx bpx b t) 3 251 256 codex_1783 :=
  And.intro (anx_1779 Hy) (anx_1782 Hy)
theorem anx_1784 (Hy : Hyx tys cA base adS Ex) : xall (fun b t => xOK l Dg clx tys cA flx ftx base adS GWx xyx xcx xnx xrx Ex codex bmx bpx b t) 4 123 128 codex_1784 :=
  And.intro (anx_1776 Hy) (anx_1783 Hy)
theorem anx_1785 (Hy : Hyx tys cA base adS Ex) : xall (fun b t => xOK l Dg clx tys cA flx ftx base adS GWx xyx xcx xnx xrx Ex codex bmx bpx b t) 5 59 64 codex_1785 :=
  And.intro (anx_1769 Hy) (anx_1784 Hy)
theorem anx_1786 (Hy : Hyx tys cA base adS Ex) : xall (fun b t => xOK l Dg clx tys cA flx ftx base adS GWx xyx xcx xnx xrx Ex codex bmx bpx b t) 6 27 32 codex_1786 :=
  And.intro (anx_1754 Hy) (anx_1785 Hy)
theorem anx_1787 (Hy : Hyx tys cA base adS Ex) : xall (fun b t => xOK l Dg clx tys cA flx ftx base adS GWx xyx xcx xnx xrx Ex codex bmx bpx b t) 7 11 16 codex_1787 :=
  And.intro (anx_1723 Hy) (anx_1786 Hy)
theorem anx_1788 (Hy : Hyx tys cA base adS Ex) : xall (fun b t => xOK l Dg clx tys cA flx ftx base adS GWx xyx xcx xnx xrx Ex codex bmx bpx b t) 8 3 8 codex_1788 :=
  And.intro (anx_1660 Hy) (anx_1787 Hy)
theorem anx_1789 (Hy : Hyx tys cA base adS Ex) : xall (fun b t => xOK l Dg clx tys cA flx ftx base adS GWx xyx xcx xnx xrx Ex codex bmx bpx b t) 1 7 1024 codex_1789 :=
  And.intro (okx_7 Hy) (okx_1031 Hy)
theorem anx_1790 (Hy : Hyx tys cA base adS Ex) : xall (fun b t => xOK l Dg clx tys cA flx ftx base adS GWx xyx xcx xnx xrx Ex codex bmx bpx b t) 1 519 1024 codex_1790 :=
  And.intro (okx_519 Hy) (okzx 1543)
theorem anx_1791 (Hy : Hyx tys cA base adS Ex) : xall (fun b t => xOK l Dg clx tys cA flx ftx base adS GWx xyx xcx xnx xrx Ex codex bmx bpx b t) 2 7 512 codex_1791 :=
  And.intro (anx_1789 Hy) (anx_1790 Hy)
theorem anx_1792 (Hy : Hyx tys cA base adS Ex) : xall (fun b t => xOK l Dg clx tys cA flx ftx base adS GWx xyx xcx xnx xrx Ex codex bmx bpx b t) 1 263 1024 codex_1792 :=
  And.intro (okx_263 Hy) (okzx 1287)
theorem anx_1793 (Hy : Hyx tys cA base adS Ex) : xall (fun b t => xOK l Dg clx tys cA flx ftx base adS GWx xyx xcx xnx xrx Ex codex bmx bpx b t) 1 775 1024 codex_1793 :=
  And.intro (okx_775 Hy) (okzx 1799)
theorem anx_1794 (Hy : Hyx tys cA base adS Ex) : xall (fun b t => xOK l Dg clx tys cA flx ftx base adS GWx xyx xcx xnx xrx Ex codex bmx bpx b t) 2 263 512 codex_1794 :=
  And.intro (anx_1792 Hy) (anx_1793 Hy)
theorem anx_1795 (Hy : Hyx tys cA base adS Ex) : xall (fun b t => xOK l Dg clx tys cA flx ftx base adS GWx xyx xcx xnx xrx Ex codex bmx bpx b t) 3 7 256 codex_1795 :=
  And.intro (anx_1791 Hy) (anx_1794 Hy)
theorem anx_1796 (Hy : Hyx tys cA base adS Ex) : xall (fun b t => xOK l Dg clx tys cA flx ftx base adS GWx xyx xcx xnx xrx Ex codex bmx bpx b t) 1 135 1024 codex_1796 :=
  And.intro (okx_135 Hy) (okx_1159 Hy)
theorem anx_1797 (Hy : Hyx tys cA base adS Ex) : xall (fun b t => xOK l Dg clx tys cA flx ftx base adS GWx xyx xcx xnx xrx Ex codex bmx bpx b t) 1 647 1024 codex_1797 :=
  And.intro (okx_647 Hy) (okzx 1671)
theorem anx_1798 (Hy : Hyx tys cA base adS Ex) : xall (fun b t => xOK l Dg clx tys cA flx ftx base adS GWx xyx xcx xnx xrx Ex codex bmx bpx b t) 2 135 512 codex_1798 :=
  And.intro (anx_1796 Hy) (anx_1797 Hy)
theorem anx_1799 (Hy : Hyx tys cA base adS Ex) : xall (fun b t => xOK l Dg clx tys cA flx ftx base adS GWx xyx xcx xnx xrx Ex codex bmx bpx b t) 1 391 1024 codex_1799 :=
  And.intro (okx_391 Hy) (okzx 1415)
theorem anx_1800 (Hy : Hyx tys cA base adS Ex) : xall (fun b t => xOK l Dg clx tys cA flx ftx base adS GWx xyx xcx xnx xrx Ex codex bmx bpx b t) 1 903 1024 codex_1800 :=
  And.intro (okx_903 Hy) (okzx 1927)
theorem anx_1801 (Hy : Hyx tys cA base adS Ex) : xall (fun b t => xOK l Dg clx tys cA flx ftx base adS GWx xyx xcx xnx xrx Ex codex bmx bpx b t) 2 391 512 codex_1801 :=
  And.intro (anx_1799 Hy) (anx_1800 Hy)
theorem anx_1802 (Hy : Hyx tys cA base adS Ex) : xall (fun b t => xOK l Dg clx tys cA flx ftx base adS GWx xyx xcx xnx xrx Ex codex bmx bpx b t) 3 135 256 codex_1802 :=
  And.intro (anx_1798 Hy) (anx_1801 Hy)
theorem anx_1803 (Hy : Hyx tys cA base adS Ex) : xall (fun b t => xOK l Dg clx tys cA flx ftx base adS GWx xyx xcx xnx xrx Ex codex bmx bpx b t) 4 7 128 codex_1803 :=
  And.intro (anx_1795 Hy) (anx_1802 Hy)
theorem anx_1804 (Hy : Hyx tys cA base adS Ex) : xall (fun b t => xOK l Dg clx tys cA flx ftx base adS GWx xyx xcx xnx xrx Ex codex bmx bpx b t) 1 71 1024 codex_1804 :=
  And.intro (okx_71 Hy) (okx_1095 Hy)
theorem anx_1805 (Hy : Hyx tys cA base adS Ex) : xall (fun b t => xOK l Dg clx tys cA flx ftx base adS GWx xyx xcx xnx xrx Ex codex bmx bpx b t) 1 583 1024 codex_1805 :=
  And.intro (okx_583 Hy) (okzx 1607)
theorem anx_1806 (Hy : Hyx tys cA base adS Ex) : xall (fun b t => xOK l Dg clx tys cA flx ftx base adS GWx xyx xcx xnx xrx Ex codex bmx bpx b t) 2 71 512 codex_1806 :=
  And.intro (anx_1804 Hy) (anx_1805 Hy)
theorem anx_1807 (Hy : Hyx tys cA base adS Ex) : xall (fun b t => xOK l Dg clx tys cA flx ftx base adS GWx xyx xcx xnx xrx Ex codex bmx bpx b t) 1 327 1024 codex_1807 :=
  And.intro (okx_327 Hy) (okzx 1351)
theorem anx_1808 (Hy : Hyx tys cA base adS Ex) : xall (fun b t => xOK l Dg clx tys cA flx ftx base adS GWx xyx xcx xnx xrx Ex codex bmx bpx b t) 1 839 1024 codex_1808 :=
  And.intro (okx_839 Hy) (okzx 1863)
theorem anx_1809 (Hy : Hyx tys cA base adS Ex) : xall (fun b t => xOK l Dg clx tys cA flx ftx base adS GWx xyx xcx xnx xrx Ex codex bmx bpx b t) 2 327 512 codex_1809 :=
  And.intro (anx_1807 Hy) (anx_1808 Hy)
theorem anx_1810 (Hy : Hyx tys cA base adS Ex) : xall (fun b t => xOK l Dg clx tys cA flx ftx base adS GWx xyx xcx xnx xrx Ex codex bmx bpx b t) 3 71 256 codex_1810 :=
  And.intro (anx_1806 Hy) (anx_1809 Hy)
theorem anx_1811 (Hy : Hyx tys cA base adS Ex) : xall (fun b t => xOK l Dg clx tys cA flx ftx base adS GWx xyx xcx xnx xrx Ex codex bmx bpx b t) 1 199 1024 codex_1811 :=
  And.intro (okx_199 Hy) (okzx 1223)
theorem anx_1812 (Hy : Hyx tys cA base adS Ex) : xall (fun b t => xOK l Dg clx tys cA flx ftx base adS GWx xyx xcx xnx xrx Ex codex bmx bpx b t) 1 711 1024 codex_1812 :=
  And.intro (okx_711 Hy) (okzx 1735)
theorem anx_1813 (Hy : Hyx tys cA base adS Ex) : xall (fun b t => xOK l Dg clx tys cA flx ftx base adS GWx xyx xcx xnx xrx Ex codex bmx bpx b t) 2 199 512 codex_1813 :=
  And.intro (anx_1811 Hy) (anx_1812 Hy)
theorem anx_1814 (Hy : Hyx tys cA base adS Ex) : xall (fun b t => xOK l Dg clx tys cA flx ftx base adS GWx xyx xcx xnx xrx Ex codex bmx bpx b t) 1 455 1024 codex_1814 :=
  And.intro (okx_455 Hy) (okzx 1479)
theorem anx_1815 (Hy : Hyx tys cA base adS Ex) : xall (fun b t => xOK l Dg clx tys cA flx ftx base adS GWx xyx xcx xnx xrx Ex codex bmx bpx b t) 1 967 1024 codex_1815 :=
  And.intro (okx_967 Hy) (okzx 1991)
theorem anx_1816 (Hy : Hyx tys cA base adS Ex) : xall (fun b t => xOK l Dg clx tys cA flx ftx base adS GWx xyx xcx xnx xrx Ex codex bmx bpx b t) 2 455 512 codex_1816 :=
  And.intro (anx_1814 Hy) (anx_1815 Hy)
theorem anx_1817 (Hy : Hyx tys cA base adS Ex) : xall (fun b t => xOK l Dg clx tys cA flx ftx base adS GWx xyx xcx xnx xrx Ex codex bmx bpx b t) 3 199 256 codex_1817 :=
  And.intro (anx_1813 Hy) (anx_1816 Hy)
theorem anx_1818 (Hy : Hyx tys cA base adS Ex) : xall (fun b t => xOK l Dg clx tys cA flx ftx base adS GWx xyx xcx xnx xrx Ex codex bmx bpx b t) 4 71 128 codex_1818 :=
  And.intro (anx_1810 Hy) (anx_1817 Hy)
theorem anx_1819 (Hy : Hyx tys cA base adS Ex) : xall (fun b t => xOK l Dg clx tys cA flx ftx base adS GWx xyx xcx xnx xrx Ex codex bmx bpx b t) 5 7 64 codex_1819 :=
  And.intro (anx_1803 Hy) (anx_1818 Hy)
theorem anx_1820 (Hy : Hyx tys cA base adS Ex) : xall (fun b t => xOK l Dg clx tys cA flx ftx base adS GWx xyx xcx xnx xrx Ex codex bmx bpx b t) 1 39 1024 codex_1820 :=
  And.intro (okx_39 Hy) (okx_1063 Hy)
theorem anx_1821 (Hy : Hyx tys cA base adS Ex) : xall (fun b t => xOK l Dg clx tys cA flx ftx base adS GWx xyx xcx xnx xrx Ex codex bmx bpx b t) 1 551 1024 codex_1821 :=
  And.intro (okx_551 Hy) (okzx 1575)
theorem anx_1822 (Hy : Hyx tys cA base adS Ex) : xall (fun b t => xOK l Dg clx tys cA flx ftx base adS GWx xyx xcx xnx xrx Ex codex bmx bpx b t) 2 39 512 codex_1822 :=
  And.intro (anx_1820 Hy) (anx_1821 Hy)
theorem anx_1823 (Hy : Hyx tys cA base adS Ex) : xall (fun b t => xOK l Dg clx tys cA flx ftx base adS GWx xyx xcx xnx xrx Ex codex bmx bpx b t) 1 295 1024 codex_1823 :=
  And.intro (okx_295 Hy) (okzx 1319)
theorem anx_1824 (Hy : Hyx tys cA base adS Ex) : xall (fun b t => xOK l Dg clx tys cA flx ftx base adS GWx xyx xcx xnx xrx Ex codex bmx bpx b t) 1 807 1024 codex_1824 :=
  And.intro (okx_807 Hy) (okzx 1831)
theorem anx_1825 (Hy : Hyx tys cA base adS Ex) : xall (fun b t => xOK l Dg clx tys cA flx ftx base adS GWx xyx xcx xnx xrx Ex codex bmx bpx b t) 2 295 512 codex_1825 :=
  And.intro (anx_1823 Hy) (anx_1824 Hy)
theorem anx_1826 (Hy : Hyx tys cA base adS Ex) : xall (fun b t => xOK l Dg clx tys cA flx ftx base adS GWx xyx xcx xnx xrx Ex codex bmx bpx b t) 3 39 256 codex_1826 :=
  And.intro (anx_1822 Hy) (anx_1825 Hy)
theorem anx_1827 (Hy : Hyx tys cA base adS Ex) : xall (fun b t => xOK l Dg clx tys cA flx ftx base adS GWx xyx xcx xnx xrx Ex codex bmx bpx b t) 1 167 1024 codex_1827 :=
  And.intro (okx_167 Hy) (okx_1191 Hy)
theorem anx_1828 (Hy : Hyx tys cA base adS Ex) : xall (fun b t => xOK l Dg clx tys cA flx ftx base adS GWx xyx xcx xnx xrx Ex codex bmx bpx b t) 1 679 1024 codex_1828 :=
  And.intro (okx_679 Hy) (okzx 1703)
theorem anx_1829 (Hy : Hyx tys cA base adS Ex) : xall (fun b t => xOK l Dg clx tys cA flx ftx base adS GWx xyx xcx xnx xrx Ex codex bmx bpx b t) 2 167 512 codex_1829 :=
  And.intro (anx_1827 Hy) (anx_1828 Hy)
theorem anx_1830 (Hy : Hyx tys cA base adS Ex) : xall (fun b t => xOK l Dg clx tys cA flx ftx base adS GWx xyx xcx xnx xrx Ex codex bmx bpx b t) 1 423 1024 codex_1830 :=
  And.intro (okx_423 Hy) (okzx 1447)
theorem anx_1831 (Hy : Hyx tys cA base adS Ex) : xall (fun b t => xOK l Dg clx tys cA flx ftx base adS GWx xyx xcx xnx xrx Ex codex bmx bpx b t) 1 935 1024 codex_1831 :=
  And.intro (okx_935 Hy) (okzx 1959)
theorem anx_1832 (Hy : Hyx tys cA base adS Ex) : xall (fun b t => xOK l Dg clx tys cA flx ftx base adS GWx xyx xcx xnx xrx Ex codex bmx bpx b t) 2 423 512 codex_1832 :=
  And.intro (anx_1830 Hy) (anx_1831 Hy)
theorem anx_1833 (Hy : Hyx tys cA base adS Ex) : xall (fun b t => xOK l Dg clx tys cA flx ftx base adS GWx xyx xcx xnx xrx Ex codex bmx bpx b t) 3 167 256 codex_1833 :=
  And.intro (anx_1829 Hy) (anx_1832 Hy)
theorem anx_1834 (Hy : Hyx tys cA base adS Ex) : xall (fun b t => xOK l Dg clx tys cA flx ftx base adS GWx xyx xcx xnx xrx Ex codex bmx bpx b t) 4 39 128 codex_1834 :=
  And.intro (anx_1826 Hy) (anx_1833 Hy)
theorem anx_1835 (Hy : Hyx tys cA base adS Ex) : xall (fun b t => xOK l Dg clx tys cA flx ftx base adS GWx xyx xcx xnx xrx Ex codex bmx bpx b t) 1 103 1024 codex_1835 :=
  And.intro (okx_103 Hy) (okx_1127 Hy)
theorem anx_1836 (Hy : Hyx tys cA base adS Ex) : xall (fun b t => xOK l Dg clx tys cA flx ftx base adS GWx xyx xcx xnx xrx Ex codex bmx bpx b t) 1 615 1024 codex_1836 :=
  And.intro (okx_615 Hy) (okzx 1639)
theorem anx_1837 (Hy : Hyx tys cA base adS Ex) : xall (fun b t => xOK l Dg clx tys cA flx ftx base adS GWx xyx xcx xnx xrx Ex codex bmx bpx b t) 2 103 512 codex_1837 :=
  And.intro (anx_1835 Hy) (anx_1836 Hy)
theorem anx_1838 (Hy : Hyx tys cA base adS Ex) : xall (fun b t => xOK l Dg clx tys cA flx ftx base adS GWx xyx xcx xnx xrx Ex codex bmx bpx b t) 1 359 1024 codex_1838 :=
  And.intro (okx_359 Hy) (okzx 1383)
theorem anx_1839 (Hy : Hyx tys cA base adS Ex) : xall (fun b t => xOK l Dg clx tys cA flx ftx base adS GWx xyx xcx xnx xrx Ex codex bmx bpx b t) 1 871 1024 codex_1839 :=
  And.intro (okx_871 Hy) (okzx 1895)
theorem anx_1840 (Hy : Hyx tys cA base adS Ex) : xall (fun b t => xOK l Dg clx tys cA flx ftx base adS GWx xyx xcx xnx xrx Ex codex bmx bpx b t) 2 359 512 codex_1840 :=
  And.intro (anx_1838 Hy) (anx_1839 Hy)
theorem anx_1841 (Hy : Hyx tys cA base adS Ex) : xall (fun b t => xOK l Dg clx tys cA flx ftx base adS GWx xyx xcx xnx xrx Ex codex bmx bpx b t) 3 103 256 codex_1841 :=
  And.intro (anx_1837 Hy) (anx_1840 Hy)
theorem anx_1842 (Hy : Hyx tys cA base adS Ex) : xall (fun b t => xOK l Dg clx tys cA flx ftx base adS GWx xyx xcx xnx xrx Ex codex bmx bpx b t) 1 231 1024 codex_1842 :=
  And.intro (okx_231 Hy) (okzx 1255)
theorem anx_1843 (Hy : Hyx tys cA base adS Ex) : xall (fun b t => xOK l Dg clx tys cA flx ftx base adS GWx xyx xcx xnx xrx Ex codex bmx bpx b t) 1 743 1024 codex_1843 :=
  And.intro (okx_743 Hy) (okzx 1767)
theorem anx_1844 (Hy : Hyx tys cA base adS Ex) : xall (fun b t => xOK l Dg clx tys cA flx ftx base adS GWx xyx xcx xnx xrx Ex codex bmx bpx b t) 2 231 512 codex_1844 :=
  And.intro (anx_1842 Hy) (anx_1843 Hy)
theorem anx_1845 (Hy : Hyx tys cA base adS Ex) : xall (fun b t => xOK l Dg clx tys cA flx ftx base adS GWx xyx xcx xnx xrx Ex codex bmx bpx b t) 1 487 1024 codex_1845 :=
  And.intro (okx_487 Hy) (okzx 1511)
theorem anx_1846 (Hy : Hyx tys cA base adS Ex) : xall (fun b t => xOK l Dg clx tys cA flx ftx base adS GWx xyx xcx xnx xrx Ex codex bmx bpx b t) 1 999 1024 codex_1846 :=
  And.intro (okx_999 Hy) (okzx 2023)
theorem anx_1847 (Hy : Hyx tys cA base adS Ex) : xall (fun b t => xOK l Dg clx tys cA flx ftx base adS GWx xyx xcx xnx xrx Ex codex bmx bpx b t) 2 487 512 codex_1847 :=
  And.intro (anx_1845 Hy) (anx_1846 Hy)
theorem anx_1848 (Hy : Hyx tys cA base adS Ex) : xall (fun b t => xOK l Dg clx tys cA flx ftx base adS GWx xyx xcx xnx xrx Ex codex bmx bpx b t) 3 231 256 codex_1848 :=
  And.intro (anx_1844 Hy) (anx_1847 Hy)
theorem anx_1849 (Hy : Hyx tys cA base adS Ex) : xall (fun b t => xOK l Dg clx tys cA flx ftx base adS GWx xyx xcx xnx xrx Ex codex bmx bpx b t) 4 103 128 codex_1849 :=
  And.intro (anx_1841 Hy) (anx_1848 Hy)
theorem anx_1850 (Hy : Hyx tys cA base adS Ex) : xall (fun b t => xOK l Dg clx tys cA flx ftx base adS GWx xyx xcx xnx xrx Ex codex bmx bpx b t) 5 39 64 codex_1850 :=
  And.intro (anx_1834 Hy) (anx_1849 Hy)
theorem anx_1851 (Hy : Hyx tys cA base adS Ex) : xall (fun b t => xOK l Dg clx tys cA flx ftx base adS GWx xyx xcx xnx xrx Ex codex bmx bpx b t) 6 7 32 codex_1851 :=
  And.intro (anx_1819 Hy) (anx_1850 Hy)
theorem anx_1852 (Hy : Hyx tys cA base adS Ex) : xall (fun b t => xOK l Dg clx tys cA flx ftx base adS GWx xyx xcx xnx xrx Ex codex bmx bpx b t) 1 23 1024 codex_1852 :=
  And.intro (okx_23 Hy) (okx_1047 Hy)
theorem anx_1853 (Hy : Hyx tys cA base adS Ex) : xall (fun b t => xOK l Dg clx tys cA flx ftx base adS GWx xyx xcx xnx xrx Ex codex bmx bpx b t) 1 535 1024 codex_1853 :=
  And.intro (okx_535 Hy) (okzx 1559)
theorem anx_1854 (Hy : Hyx tys cA base adS Ex) : xall (fun b t => xOK l Dg clx tys cA flx ftx base adS GWx xyx xcx xnx xrx Ex codex bmx bpx b t) 2 23 512 codex_1854 :=
  And.intro (anx_1852 Hy) (anx_1853 Hy)
theorem anx_1855 (Hy : Hyx tys cA base adS Ex) : xall (fun b t => xOK l Dg clx tys cA flx ftx base adS GWx xyx xcx xnx xrx Ex codex bmx bpx b t) 1 279 1024 codex_1855 :=
  And.intro (okx_279 Hy) (okzx 1303)
theorem anx_1856 (Hy : Hyx tys cA base adS Ex) : xall (fun b t => xOK l Dg clx tys cA flx ftx base adS GWx xyx xcx xnx xrx Ex codex bmx bpx b t) 1 791 1024 codex_1856 :=
  And.intro (okx_791 Hy) (okzx 1815)
theorem anx_1857 (Hy : Hyx tys cA base adS Ex) : xall (fun b t => xOK l Dg clx tys cA flx ftx base adS GWx xyx xcx xnx xrx Ex codex bmx bpx b t) 2 279 512 codex_1857 :=
  And.intro (anx_1855 Hy) (anx_1856 Hy)
theorem anx_1858 (Hy : Hyx tys cA base adS Ex) : xall (fun b t => xOK l Dg clx tys cA flx ftx base adS GWx xyx xcx xnx xrx Ex codex bmx bpx b t) 3 23 256 codex_1858 :=
  And.intro (anx_1854 Hy) (anx_1857 Hy)
theorem anx_1859 (Hy : Hyx tys cA base adS Ex) : xall (fun b t => xOK l Dg clx tys cA flx ftx base adS GWx xyx xcx xnx xrx Ex codex bmx bpx b t) 1 151 1024 codex_1859 :=
  And.intro (okx_151 Hy) (okx_1175 Hy)
theorem anx_1860 (Hy : Hyx tys cA base adS Ex) : xall (fun b t => xOK l Dg clx tys cA flx ftx base adS GWx xyx xcx xnx xrx Ex codex bmx bpx b t) 1 663 1024 codex_1860 :=
  And.intro (okx_663 Hy) (okzx 1687)
theorem anx_1861 (Hy : Hyx tys cA base adS Ex) : xall (fun b t => xOK l Dg clx tys cA flx ftx base adS GWx xyx xcx xnx xrx Ex codex bmx bpx b t) 2 151 512 codex_1861 :=
  And.intro (anx_1859 Hy) (anx_1860 Hy)
theorem anx_1862 (Hy : Hyx tys cA base adS Ex) : xall (fun b t => xOK l Dg clx tys cA flx ftx base adS GWx xyx xcx xnx xrx Ex codex bmx bpx b t) 1 407 1024 codex_1862 :=
  And.intro (okx_407 Hy) (okzx 1431)
theorem anx_1863 (Hy : Hyx tys cA base adS Ex) : xall (fun b t => xOK l Dg clx tys cA flx ftx base adS GWx xyx xcx xnx xrx Ex codex bmx bpx b t) 1 919 1024 codex_1863 :=
  And.intro (okx_919 Hy) (okzx 1943)
theorem anx_1864 (Hy : Hyx tys cA base adS Ex) : xall (fun b t => xOK l Dg clx tys cA flx ftx base adS GWx xyx xcx xnx xrx Ex codex bmx bpx b t) 2 407 512 codex_1864 :=
  And.intro (anx_1862 Hy) (anx_1863 Hy)
theorem anx_1865 (Hy : Hyx tys cA base adS Ex) : xall (fun b t => xOK l Dg clx tys cA flx ftx base adS GWx xyx xcx xnx xrx Ex codex bmx bpx b t) 3 151 256 codex_1865 :=
  And.intro (anx_1861 Hy) (anx_1864 Hy)
theorem anx_1866 (Hy : Hyx tys cA base adS Ex) : xall (fun b t => xOK l Dg clx tys cA flx ftx base adS GWx xyx xcx xnx xrx Ex codex bmx bpx b t) 4 23 128 codex_1866 :=
  And.intro (anx_1858 Hy) (anx_1865 Hy)
theorem anx_1867 (Hy : Hyx tys cA base adS Ex) : xall (fun b t => xOK l Dg clx tys cA flx ftx base adS GWx xyx xcx xnx xrx Ex codex bmx bpx b t) 1 87 1024 codex_1867 :=
  And.intro (okx_87 Hy) (okx_1111 Hy)
theorem anx_1868 (Hy : Hyx tys cA base adS Ex) : xall (fun b t => xOK l Dg clx tys cA flx ftx base adS GWx xyx xcx xnx xrx Ex codex bmx bpx b t) 1 599 1024 codex_1868 :=
  And.intro (okx_599 Hy) (okzx 1623)
theorem anx_1869 (Hy : Hyx tys cA base adS Ex) : xall (fun b t => xOK l Dg clx tys cA flx ftx base adS GWx xyx xcx xnx xrx Ex codex bmx bpx b t) 2 87 512 codex_1869 :=
  And.intro (anx_1867 Hy) (anx_1868 Hy)
theorem anx_1870 (Hy : Hyx tys cA base adS Ex) : xall (fun b t => xOK l Dg clx tys cA flx ftx base adS GWx xyx xcx xnx xrx Ex codex bmx bpx b t) 1 343 1024 codex_1870 :=
  And.intro (okx_343 Hy) (okzx 1367)
theorem anx_1871 (Hy : Hyx tys cA base adS Ex) : xall (fun b t => xOK l Dg clx tys cA flx ftx base adS GWx xyx xcx xnx xrx Ex codex bmx bpx b t) 1 855 1024 codex_1871 :=
  And.intro (okx_855 Hy) (okzx 1879)
theorem anx_1872 (Hy : Hyx tys cA base adS Ex) : xall (fun b t => xOK l Dg clx tys cA flx ftx base adS GWx xyx xcx xnx xrx Ex codex bmx bpx b t) 2 343 512 codex_1872 :=
  And.intro (anx_1870 Hy) (anx_1871 Hy)
theorem anx_1873 (Hy : Hyx tys cA base adS Ex) : xall (fun b t => xOK l Dg clx tys cA flx ftx base adS GWx xyx xcx xnx xrx Ex codex bmx bpx b t) 3 87 256 codex_1873 :=
  And.intro (anx_1869 Hy) (anx_1872 Hy)
theorem anx_1874 (Hy : Hyx tys cA base adS Ex) : xall (fun b t => xOK l Dg clx tys cA flx ftx base adS GWx xyx xcx xnx xrx Ex codex bmx bpx b t) 1 215 1024 codex_1874 :=
  And.intro (okx_215 Hy) (okzx 1239)
theorem anx_1875 (Hy : Hyx tys cA base adS Ex) : xall (fun b t => xOK l Dg clx tys cA flx ftx base adS GWx xyx xcx xnx xrx Ex codex bmx bpx b t) 1 727 1024 codex_1875 :=
  And.intro (okx_727 Hy) (okzx 1751)
theorem anx_1876 (Hy : Hyx tys cA base adS Ex) : xall (fun b t => xOK l Dg clx tys cA flx ftx base adS GWx xyx xcx xnx xrx Ex codex bmx bpx b t) 2 215 512 codex_1876 :=
  And.intro (anx_1874 Hy) (anx_1875 Hy)
theorem anx_1877 (Hy : Hyx tys cA base adS Ex) : xall (fun b t => xOK l Dg clx tys cA flx ftx base adS GWx xyx xcx xnx xrx Ex codex bmx bpx b t) 1 471 1024 codex_1877 :=
  And.intro (okx_471 Hy) (okzx 1495)
theorem anx_1878 (Hy : Hyx tys cA base adS Ex) : xall (fun b t => xOK l Dg clx tys cA flx ftx base adS GWx xyx xcx xnx xrx Ex codex bmx bpx b t) 1 983 1024 codex_1878 :=
  And.intro (okx_983 Hy) (okzx 2007)
theorem anx_1879 (Hy : Hyx tys cA base adS Ex) : xall (fun b t => xOK l Dg clx tys cA flx ftx base adS GWx xyx xcx xnx xrx Ex codex bmx bpx b t) 2 471 512 codex_1879 :=
  And.intro (anx_1877 Hy) (anx_1878 Hy)
theorem anx_1880 (Hy : Hyx tys cA base adS Ex) : xall (fun b t => xOK l Dg clx tys cA flx ftx base adS GWx xyx xcx xnx xrx Ex codex bmx bpx b t) 3 215 256 codex_1880 :=
  And.intro (anx_1876 Hy) (anx_1879 Hy)
theorem anx_1881 (Hy : Hyx tys cA base adS Ex) : xall (fun b t => xOK l Dg clx tys cA flx ftx base adS GWx xyx xcx xnx xrx Ex codex bmx bpx b t) 4 87 128 codex_1881 :=
  And.intro (anx_1873 Hy) (anx_1880 Hy)
theorem anx_1882 (Hy : Hyx tys cA base adS Ex) : xall (fun b t => xOK l Dg clx tys cA flx ftx base adS GWx xyx xcx xnx xrx Ex codex bmx bpx b t) 5 23 64 codex_1882 :=
  And.intro (anx_1866 Hy) (anx_1881 Hy)
theorem anx_1883 (Hy : Hyx tys cA base adS Ex) : xall (fun b t => xOK l Dg clx tys cA flx ftx base adS GWx xyx xcx xnx xrx Ex codex bmx bpx b t) 1 55 1024 codex_1883 :=
  And.intro (okx_55 Hy) (okx_1079 Hy)
theorem anx_1884 (Hy : Hyx tys cA base adS Ex) : xall (fun b t => xOK l Dg clx tys cA flx ftx base adS GWx xyx xcx xnx xrx Ex codex bmx bpx b t) 1 567 1024 codex_1884 :=
  And.intro (okx_567 Hy) (okzx 1591)
theorem anx_1885 (Hy : Hyx tys cA base adS Ex) : xall (fun b t => xOK l Dg clx tys cA flx ftx base adS GWx xyx xcx xnx xrx Ex codex bmx bpx b t) 2 55 512 codex_1885 :=
  And.intro (anx_1883 Hy) (anx_1884 Hy)
theorem anx_1886 (Hy : Hyx tys cA base adS Ex) : xall (fun b t => xOK l Dg clx tys cA flx ftx base adS GWx xyx xcx xnx xrx Ex codex bmx bpx b t) 1 311 1024 codex_1886 :=
  And.intro (okx_311 Hy) (okzx 1335)
theorem anx_1887 (Hy : Hyx tys cA base adS Ex) : xall (fun b t => xOK l Dg clx tys cA flx ftx base adS GWx xyx xcx xnx xrx Ex codex bmx bpx b t) 1 823 1024 codex_1887 :=
  And.intro (okx_823 Hy) (okzx 1847)
theorem anx_1888 (Hy : Hyx tys cA base adS Ex) : xall (fun b t => xOK l Dg clx tys cA flx ftx base adS GWx xyx xcx xnx xrx Ex codex bmx bpx b t) 2 311 512 codex_1888 :=
  And.intro (anx_1886 Hy) (anx_1887 Hy)
theorem anx_1889 (Hy : Hyx tys cA base adS Ex) : xall (fun b t => xOK l Dg clx tys cA flx ftx base adS GWx xyx xcx xnx xrx Ex codex bmx bpx b t) 3 55 256 codex_1889 :=
  And.intro (anx_1885 Hy) (anx_1888 Hy)
theorem anx_1890 (Hy : Hyx tys cA base adS Ex) : xall (fun b t => xOK l Dg clx tys cA flx ftx base adS GWx xyx xcx xnx xrx Ex codex bmx bpx b t) 1 183 1024 codex_1890 :=
  And.intro (okx_183 Hy) (okzx 1207)
theorem anx_1891 (Hy : Hyx tys cA base adS Ex) : xall (fun b t => xOK l Dg clx tys cA flx ftx base adS GWx xyx xcx xnx xrx Ex codex bmx bpx b t) 1 695 1024 codex_1891 :=
  And.intro (okx_695 Hy) (okzx 1719)
theorem anx_1892 (Hy : Hyx tys cA base adS Ex) : xall (fun b t => xOK l Dg clx tys cA flx ftx base adS GWx xyx xcx xnx xrx Ex codex bmx bpx b t) 2 183 512 codex_1892 :=
  And.intro (anx_1890 Hy) (anx_1891 Hy)
theorem anx_1893 (Hy : Hyx tys cA base adS Ex) : xall (fun b t => xOK l Dg clx tys cA flx ftx base adS GWx xyx xcx xnx xrx Ex codex bmx bpx b t) 1 439 1024 codex_1893 :=
  And.intro (okx_439 Hy) (okzx 1463)
theorem anx_1894 (Hy : Hyx tys cA base adS Ex) : xall (fun b t => xOK l Dg clx tys cA flx ftx base adS GWx xyx xcx xnx xrx Ex codex bmx bpx b t) 1 951 1024 codex_1894 :=
  And.intro (okx_951 Hy) (okzx 1975)
theorem anx_1895 (Hy : Hyx tys cA base adS Ex) : xall (fun b t => xOK l Dg clx tys cA flx ftx base adS GWx xyx xcx xnx xrx Ex codex bmx bpx b t) 2 439 512 codex_1895 :=
  And.intro (anx_1893 Hy) (anx_1894 Hy)
theorem anx_1896 (Hy : Hyx tys cA base adS Ex) : xall (fun b t => xOK l Dg clx tys cA flx ftx base adS GWx xyx xcx xnx xrx Ex codex bmx bpx b t) 3 183 256 codex_1896 :=
  And.intro (anx_1892 Hy) (anx_1895 Hy)
theorem anx_1897 (Hy : Hyx tys cA base adS Ex) : xall (fun b t => xOK l Dg clx tys cA flx ftx base adS GWx xyx xcx xnx xrx Ex codex bmx bpx b t) 4 55 128 codex_1897 :=
  And.intro (anx_1889 Hy) (anx_1896 Hy)
theorem anx_1898 (Hy : Hyx tys cA base adS Ex) : xall (fun b t => xOK l Dg clx tys cA flx ftx base adS GWx xyx xcx xnx xrx Ex codex bmx bpx b t) 1 119 1024 codex_1898 :=
  And.intro (okx_119 Hy) (okx_1143 Hy)
theorem anx_1899 (Hy : Hyx tys cA base adS Ex) : xall (fun b t => xOK l Dg clx tys cA flx ftx base adS GWx xyx xcx xnx xrx Ex codex bmx bpx b t) 1 631 1024 codex_1899 :=
  And.intro (okx_631 Hy) (okzx 1655)
theorem anx_1900 (Hy : Hyx tys cA base adS Ex) : xall (fun b t => xOK l Dg clx tys cA flx ftx base adS GWx xyx xcx xnx xrx Ex codex bmx bpx b t) 2 119 512 codex_1900 :=
  And.intro (anx_1898 Hy) (anx_1899 Hy)
theorem anx_1901 (Hy : Hyx tys cA base adS Ex) : xall (fun b t => xOK l Dg clx tys cA flx ftx base adS GWx xyx xcx xnx xrx Ex codex bmx bpx b t) 1 375 1024 codex_1901 :=
  And.intro (okx_375 Hy) (okzx 1399)
theorem anx_1902 (Hy : Hyx tys cA base adS Ex) : xall (fun b t => xOK l Dg clx tys cA flx ftx base adS GWx xyx xcx xnx xrx Ex codex bmx bpx b t) 1 887 1024 codex_1902 :=
  And.intro (okx_887 Hy) (okzx 1911)
theorem anx_1903 (Hy : Hyx tys cA base adS Ex) : xall (fun b t => xOK l Dg clx tys cA flx ftx base adS GWx xyx xcx xnx xrx Ex codex bmx bpx b t) 2 375 512 codex_1903 :=
  And.intro (anx_1901 Hy) (anx_1902 Hy)
theorem anx_1904 (Hy : Hyx tys cA base adS Ex) : xall (fun b t => xOK l Dg clx tys cA flx ftx base adS GWx xyx xcx xnx xrx Ex codex bmx bpx b t) 3 119 256 codex_1904 :=
  And.intro (anx_1900 Hy) (anx_1903 Hy)
theorem anx_1905 (Hy : Hyx tys cA base adS Ex) : xall (fun b t => xOK l Dg clx tys cA flx ftx base adS GWx xyx xcx xnx xrx Ex codex bmx bpx b t) 1 247 1024 codex_1905 :=
  And.intro (okx_247 Hy) (okzx 1271)
theorem anx_1906 (Hy : Hyx tys cA base adS Ex) : xall (fun b t => xOK l Dg clx tys cA flx ftx base adS GWx xyx xcx xnx xrx Ex codex bmx bpx b t) 1 759 1024 codex_1906 :=
  And.intro (okx_759 Hy) (okzx 1783)
theorem anx_1907 (Hy : Hyx tys cA base adS Ex) : xall (fun b t => xOK l Dg clx tys cA flx ftx base adS GWx xyx xcx xnx xrx Ex codex bmx bpx b t) 2 247 512 codex_1907 :=
  And.intro (anx_1905 Hy) (anx_1906 Hy)
theorem anx_1908 (Hy : Hyx tys cA base adS Ex) : xall (fun b t => xOK l Dg clx tys cA flx ftx base adS GWx xyx xcx xnx xrx Ex codex bmx bpx b t) 1 503 1024 codex_1908 :=
  And.intro (okx_503 Hy) (okzx 1527)
theorem anx_1909 (Hy : Hyx tys cA base adS Ex) : xall (fun b t => xOK l Dg clx tys cA flx ftx base adS GWx xyx xcx xnx xrx Ex codex bmx bpx b t) 1 1015 1024 codex_1909 :=
  And.intro (okx_1015 Hy) (okzx 2039)
theorem anx_1910 (Hy : Hyx tys cA base adS Ex) : xall (fun b t => xOK l Dg clx tys cA flx ftx base adS GWx xyx xcx xnx xrx Ex codex bmx bpx b t) 2 503 512 codex_1910 :=
  And.intro (anx_1908 Hy) (anx_1909 Hy)
theorem anx_1911 (Hy : Hyx tys cA base adS Ex) : xall (fun b t => xOK l Dg clx tys cA flx ftx base adS GWx xyx xcx xnx xrx Ex codex bmx bpx b t) 3 247 256 codex_1911 :=
  And.intro (anx_1907 Hy) (anx_1910 Hy)
theorem anx_1912 (Hy : Hyx tys cA base adS Ex) : xall (fun b t => xOK l Dg clx tys cA flx ftx base adS GWx xyx xcx xnx xrx Ex codex bmx bpx b t) 4 119 128 codex_1912 :=
  And.intro (anx_1904 Hy) (anx_1911 Hy)
theorem anx_1913 (Hy : Hyx tys cA base adS Ex) : xall (fun b t => xOK l Dg clx tys cA flx ftx base adS GWx xyx xcx xnx xrx Ex codex bmx bpx b t) 5 55 64 codex_1913 :=
  And.intro (anx_1897 Hy) (anx_1912 Hy)
theorem anx_1914 (Hy : Hyx tys cA base adS Ex) : xall (fun b t => xOK l Dg clx tys cA flx ftx base adS GWx xyx xcx xnx xrx Ex codex bmx bpx b t) 6 23 32 codex_1914 :=
  And.intro (anx_1882 Hy) (anx_1913 Hy)
theorem anx_1915 (Hy : Hyx tys cA base adS Ex) : xall (fun b t => xOK l Dg clx tys cA flx ftx base adS GWx xyx xcx xnx xrx Ex codex bmx bpx b t) 7 7 16 codex_1915 :=
  And.intro (anx_1851 Hy) (anx_1914 Hy)
theorem anx_1916 (Hy : Hyx tys cA base adS Ex) : xall (fun b t => xOK l Dg clx tys cA flx ftx base adS GWx xyx xcx xnx xrx Ex codex bmx bpx b t) 1 15 1024 codex_1916 :=
  And.intro (okx_15 Hy) (okx_1039 Hy)
theorem anx_1917 (Hy : Hyx tys cA base adS Ex) : xall (fun b t => xOK l Dg clx tys cA flx ftx base adS GWx xyx xcx xnx xrx Ex codex bmx bpx b t) 1 527 1024 codex_1917 :=
  And.intro (okx_527 Hy) (okzx 1551)
theorem anx_1918 (Hy : Hyx tys cA base adS Ex) : xall (fun b t => xOK l Dg clx tys cA flx ftx base adS GWx xyx xcx xnx xrx Ex codex bmx bpx b t) 2 15 512 codex_1918 :=
  And.intro (anx_1916 Hy) (anx_1917 Hy)
theorem anx_1919 (Hy : Hyx tys cA base adS Ex) : xall (fun b t => xOK l Dg clx tys cA flx ftx base adS GWx xyx xcx xnx xrx Ex codex bmx bpx b t) 1 271 1024 codex_1919 :=
  And.intro (okx_271 Hy) (okzx 1295)
theorem anx_1920 (Hy : Hyx tys cA base adS Ex) : xall (fun b t => xOK l Dg clx tys cA flx ftx base adS GWx xyx xcx xnx xrx Ex codex bmx bpx b t) 1 783 1024 codex_1920 :=
  And.intro (okx_783 Hy) (okzx 1807)
theorem anx_1921 (Hy : Hyx tys cA base adS Ex) : xall (fun b t => xOK l Dg clx tys cA flx ftx base adS GWx xyx xcx xnx xrx Ex codex bmx bpx b t) 2 271 512 codex_1921 :=
  And.intro (anx_1919 Hy) (anx_1920 Hy)
theorem anx_1922 (Hy : Hyx tys cA base adS Ex) : xall (fun b t => xOK l Dg clx tys cA flx ftx base adS GWx xyx xcx xnx xrx Ex codex bmx bpx b t) 3 15 256 codex_1922 :=
  And.intro (anx_1918 Hy) (anx_1921 Hy)
theorem anx_1923 (Hy : Hyx tys cA base adS Ex) : xall (fun b t => xOK l Dg clx tys cA flx ftx base adS GWx xyx xcx xnx xrx Ex codex bmx bpx b t) 1 143 1024 codex_1923 :=
  And.intro (okx_143 Hy) (okx_1167 Hy)
theorem anx_1924 (Hy : Hyx tys cA base adS Ex) : xall (fun b t => xOK l Dg clx tys cA flx ftx base adS GWx xyx xcx xnx xrx Ex codex bmx bpx b t) 1 655 1024 codex_1924 :=
  And.intro (okx_655 Hy) (okzx 1679)
theorem anx_1925 (Hy : Hyx tys cA base adS Ex) : xall (fun b t => xOK l Dg clx tys cA flx ftx base adS GWx xyx xcx xnx xrx Ex codex bmx bpx b t) 2 143 512 codex_1925 :=
  And.intro (anx_1923 Hy) (anx_1924 Hy)
theorem anx_1926 (Hy : Hyx tys cA base adS Ex) : xall (fun b t => xOK l Dg clx tys cA flx ftx base adS GWx xyx xcx xnx xrx Ex codex bmx bpx b t) 1 399 1024 codex_1926 :=
  And.intro (okx_399 Hy) (okzx 1423)
theorem anx_1927 (Hy : Hyx tys cA base adS Ex) : xall (fun b t => xOK l Dg clx tys cA flx ftx base adS GWx xyx xcx xnx xrx Ex codex bmx bpx b t) 1 911 1024 codex_1927 :=
  And.intro (okx_911 Hy) (okzx 1935)
theorem anx_1928 (Hy : Hyx tys cA base adS Ex) : xall (fun b t => xOK l Dg clx tys cA flx ftx base adS GWx xyx xcx xnx xrx Ex codex bmx bpx b t) 2 399 512 codex_1928 :=
  And.intro (anx_1926 Hy) (anx_1927 Hy)
theorem anx_1929 (Hy : Hyx tys cA base adS Ex) : xall (fun b t => xOK l Dg clx tys cA flx ftx base adS GWx xyx xcx xnx xrx Ex codex bmx bpx b t) 3 143 256 codex_1929 :=
  And.intro (anx_1925 Hy) (anx_1928 Hy)
theorem anx_1930 (Hy : Hyx tys cA base adS Ex) : xall (fun b t => xOK l Dg clx tys cA flx ftx base adS GWx xyx xcx xnx xrx Ex codex bmx bpx b t) 4 15 128 codex_1930 :=
  And.intro (anx_1922 Hy) (anx_1929 Hy)
theorem anx_1931 (Hy : Hyx tys cA base adS Ex) : xall (fun b t => xOK l Dg clx tys cA flx ftx base adS GWx xyx xcx xnx xrx Ex codex bmx bpx b t) 1 79 1024 codex_1931 :=
  And.intro (okx_79 Hy) (okx_1103 Hy)
theorem anx_1932 (Hy : Hyx tys cA base adS Ex) : xall (fun b t => xOK l Dg clx tys cA flx ftx base adS GWx xyx xcx xnx xrx Ex codex bmx bpx b t) 1 591 1024 codex_1932 :=
  And.intro (okx_591 Hy) (okzx 1615)
theorem anx_1933 (Hy : Hyx tys cA base adS Ex) : xall (fun b t => xOK l Dg clx tys cA flx ftx base adS GWx xyx xcx xnx xrx Ex codex bmx bpx b t) 2 79 512 codex_1933 :=
  And.intro (anx_1931 Hy) (anx_1932 Hy)
theorem anx_1934 (Hy : Hyx tys cA base adS Ex) : xall (fun b t => xOK l Dg clx tys cA flx ftx base adS GWx xyx xcx xnx xrx Ex codex bmx bpx b t) 1 335 1024 codex_1934 :=
  And.intro (okx_335 Hy) (okzx 1359)
theorem anx_1935 (Hy : Hyx tys cA base adS Ex) : xall (fun b t => xOK l Dg clx tys cA flx ftx base adS GWx xyx xcx xnx xrx Ex codex bmx bpx b t) 1 847 1024 codex_1935 :=
  And.intro (okx_847 Hy) (okzx 1871)
theorem anx_1936 (Hy : Hyx tys cA base adS Ex) : xall (fun b t => xOK l Dg clx tys cA flx ftx base adS GWx xyx xcx xnx xrx Ex codex bmx bpx b t) 2 335 512 codex_1936 :=
  And.intro (anx_1934 Hy) (anx_1935 Hy)
theorem anx_1937 (Hy : Hyx tys cA base adS Ex) : xall (fun b t => xOK l Dg clx tys cA flx ftx base adS GWx xyx xcx xnx xrx Ex codex bmx bpx b t) 3 79 256 codex_1937 :=
  And.intro (anx_1933 Hy) (anx_1936 Hy)
theorem anx_1938 (Hy : Hyx tys cA base adS Ex) : xall (fun b t => xOK l Dg clx tys cA flx ftx base adS GWx xyx xcx xnx xrx Ex codex bmx bpx b t) 1 207 1024 codex_1938 :=
  And.intro (okx_207 Hy) (okzx 1231)
theorem anx_1939 (Hy : Hyx tys cA base adS Ex) : xall (fun b t => xOK l Dg clx tys cA flx ftx base adS GWx xyx xcx xnx xrx Ex codex bmx bpx b t) 1 719 1024 codex_1939 :=
  And.intro (okx_719 Hy) (okzx 1743)
theorem anx_1940 (Hy : Hyx tys cA base adS Ex) : xall (fun b t => xOK l Dg clx tys cA flx ftx base adS GWx xyx xcx xnx xrx Ex codex bmx bpx b t) 2 207 512 codex_1940 :=
  And.intro (anx_1938 Hy) (anx_1939 Hy)
theorem anx_1941 (Hy : Hyx tys cA base adS Ex) : xall (fun b t => xOK l Dg clx tys cA flx ftx base adS GWx xyx xcx xnx xrx Ex codex bmx bpx b t) 1 463 1024 codex_1941 :=
  And.intro (okx_463 Hy) (okzx 1487)
theorem anx_1942 (Hy : Hyx tys cA base adS Ex) : xall (fun b t => xOK l Dg clx tys cA flx ftx base adS GWx xyx xcx xnx xrx Ex codex bmx bpx b t) 1 975 1024 codex_1942 :=
  And.intro (okx_975 Hy) (okzx 1999)
theorem anx_1943 (Hy : Hyx tys cA base adS Ex) : xall (fun b t => xOK l Dg clx tys cA flx ftx base adS GWx xyx xcx xnx xrx Ex codex bmx bpx b t) 2 463 512 codex_1943 :=
  And.intro (anx_1941 Hy) (anx_1942 Hy)
theorem anx_1944 (Hy : Hyx tys cA base adS Ex) : xall (fun b t => xOK l Dg clx tys cA flx ftx base adS GWx xyx xcx xnx xrx Ex codex bmx bpx b t) 3 207 256 codex_1944 :=
  And.intro (anx_1940 Hy) (anx_1943 Hy)
theorem anx_1945 (Hy : Hyx tys cA base adS Ex) : xall (fun b t => xOK l Dg clx tys cA flx ftx base adS GWx xyx xcx xnx xrx Ex codex bmx bpx b t) 4 79 128 codex_1945 :=
  And.intro (anx_1937 Hy) (anx_1944 Hy)
theorem anx_1946 (Hy : Hyx tys cA base adS Ex) : xall (fun b t => xOK l Dg clx tys cA flx ftx base adS GWx xyx xcx xnx xrx Ex codex bmx bpx b t) 5 15 64 codex_1946 :=
  And.intro (anx_1930 Hy) (anx_1945 Hy)
theorem anx_1947 (Hy : Hyx tys cA base adS Ex) : xall (fun b t => xOK l Dg clx tys cA flx ftx base adS GWx xyx xcx xnx xrx Ex codex bmx bpx b t) 1 47 1024 codex_1947 :=
  And.intro (okx_47 Hy) (okx_1071 Hy)
theorem anx_1948 (Hy : Hyx tys cA base adS Ex) : xall (fun b t => xOK l Dg clx tys cA flx ftx base adS GWx xyx xcx xnx xrx Ex codex bmx bpx b t) 1 559 1024 codex_1948 :=
  And.intro (okx_559 Hy) (okzx 1583)
theorem anx_1949 (Hy : Hyx tys cA base adS Ex) : xall (fun b t => xOK l Dg clx tys cA flx ftx base adS GWx xyx xcx xnx xrx Ex codex bmx bpx b t) 2 47 512 codex_1949 :=
  And.intro (anx_1947 Hy) (anx_1948 Hy)
theorem anx_1950 (Hy : Hyx tys cA base adS Ex) : xall (fun b t => xOK l Dg clx tys cA flx ftx base adS GWx xyx xcx xnx xrx Ex codex bmx bpx b t) 1 303 1024 codex_1950 :=
  And.intro (okx_303 Hy) (okzx 1327)
theorem anx_1951 (Hy : Hyx tys cA base adS Ex) : xall (fun b t => xOK l Dg clx tys cA flx ftx base adS GWx xyx xcx xnx xrx Ex codex bmx bpx b t) 1 815 1024 codex_1951 :=
  And.intro (okx_815 Hy) (okzx 1839)
theorem anx_1952 (Hy : Hyx tys cA base adS Ex) : xall (fun b t => xOK l Dg clx tys cA flx ftx base adS GWx xyx xcx xnx xrx Ex codex bmx bpx b t) 2 303 512 codex_1952 :=
  And.intro (anx_1950 Hy) (anx_1951 Hy)
theorem anx_1953 (Hy : Hyx tys cA base adS Ex) : xall (fun b t => xOK l Dg clx tys cA flx ftx base adS GWx xyx xcx xnx xrx Ex codex bmx bpx b t) 3 47 256 codex_1953 :=
  And.intro (anx_1949 Hy) (anx_1952 Hy)
theorem anx_1954 (Hy : Hyx tys cA base adS Ex) : xall (fun b t => xOK l Dg clx tys cA flx ftx base adS GWx xyx xcx xnx xrx Ex codex bmx bpx b t) 1 175 1024 codex_1954 :=
  And.intro (okx_175 Hy) (okzx 1199)
theorem anx_1955 (Hy : Hyx tys cA base adS Ex) : xall (fun b t => xOK l Dg clx tys cA flx ftx base adS GWx xyx xcx xnx xrx Ex codex bmx bpx b t) 1 687 1024 codex_1955 :=
  And.intro (okx_687 Hy) (okzx 1711)
theorem anx_1956 (Hy : Hyx tys cA base adS Ex) : xall (fun b t => xOK l Dg clx tys cA flx ftx base adS GWx xyx xcx xnx xrx Ex codex bmx bpx b t) 2 175 512 codex_1956 :=
  And.intro (anx_1954 Hy) (anx_1955 Hy)
theorem anx_1957 (Hy : Hyx tys cA base adS Ex) : xall (fun b t => xOK l Dg clx tys cA flx ftx base adS GWx xyx xcx xnx xrx Ex codex bmx bpx b t) 1 431 1024 codex_1957 :=
  And.intro (okx_431 Hy) (okzx 1455)
theorem anx_1958 (Hy : Hyx tys cA base adS Ex) : xall (fun b t => xOK l Dg clx tys cA flx ftx base adS GWx xyx xcx xnx xrx Ex codex bmx bpx b t) 1 943 1024 codex_1958 :=
  And.intro (okx_943 Hy) (okzx 1967)
theorem anx_1959 (Hy : Hyx tys cA base adS Ex) : xall (fun b t => xOK l Dg clx tys cA flx ftx base adS GWx xyx xcx xnx xrx Ex codex bmx bpx b t) 2 431 512 codex_1959 :=
  And.intro (anx_1957 Hy) (anx_1958 Hy)
theorem anx_1960 (Hy : Hyx tys cA base adS Ex) : xall (fun b t => xOK l Dg clx tys cA flx ftx base adS GWx xyx xcx xnx xrx Ex codex bmx bpx b t) 3 175 256 codex_1960 :=
  And.intro (anx_1956 Hy) (anx_1959 Hy)
theorem anx_1961 (Hy : Hyx tys cA base adS Ex) : xall (fun b t => xOK l Dg clx tys cA flx ftx base adS GWx xyx xcx xnx xrx Ex codex bmx bpx b t) 4 47 128 codex_1961 :=
  And.intro (anx_1953 Hy) (anx_1960 Hy)
theorem anx_1962 (Hy : Hyx tys cA base adS Ex) : xall (fun b t => xOK l Dg clx tys cA flx ftx base adS GWx xyx xcx xnx xrx Ex codex bmx bpx b t) 1 111 1024 codex_1962 :=
  And.intro (okx_111 Hy) (okx_1135 Hy)
theorem anx_1963 (Hy : Hyx tys cA base adS Ex) : xall (fun b t => xOK l Dg clx tys cA flx ftx base adS GWx xyx xcx xnx xrx Ex codex bmx bpx b t) 1 623 1024 codex_1963 :=
  And.intro (okx_623 Hy) (okzx 1647)
theorem anx_1964 (Hy : Hyx tys cA base adS Ex) : xall (fun b t => xOK l Dg clx tys cA flx ftx base adS GWx xyx xcx xnx xrx Ex codex bmx bpx b t) 2 111 512 codex_1964 :=
  And.intro (anx_1962 Hy) (anx_1963 Hy)
theorem anx_1965 (Hy : Hyx tys cA base adS Ex) : xall (fun b t => xOK l Dg clx tys cA flx ftx base adS GWx xyx xcx xnx xrx Ex codex bmx bpx b t) 1 367 1024 codex_1965 :=
  And.intro (okx_367 Hy) (okzx 1391)
theorem anx_1966 (Hy : Hyx tys cA base adS Ex) : xall (fun b t => xOK l Dg clx tys cA flx ftx base adS GWx xyx xcx xnx xrx Ex codex bmx bpx b t) 1 879 1024 codex_1966 :=
  And.intro (okx_879 Hy) (okzx 1903)
theorem anx_1967 (Hy : Hyx tys cA base adS Ex) : xall (fun b t => xOK l Dg clx tys cA flx ftx base adS GWx xyx xcx xnx xrx Ex codex bmx bpx b t) 2 367 512 codex_1967 :=
  And.intro (anx_1965 Hy) (anx_1966 Hy)
theorem anx_1968 (Hy : Hyx tys cA base adS Ex) : xall (fun b t => xOK l Dg clx tys cA flx ftx base adS GWx xyx xcx xnx xrx Ex codex bmx bpx b t) 3 111 256 codex_1968 :=
  And.intro (anx_1964 Hy) (anx_1967 Hy)
theorem anx_1969 (Hy : Hyx tys cA base adS Ex) : xall (fun b t => xOK l Dg clx tys cA flx ftx base adS GWx xyx xcx xnx xrx Ex codex bmx bpx b t) 1 239 1024 codex_1969 :=
  And.intro (okx_239 Hy) (okzx 1263)
theorem anx_1970 (Hy : Hyx tys cA base adS Ex) : xall (fun b t => xOK l Dg clx tys cA flx ftx base adS GWx xyx xcx xnx xrx Ex codex bmx bpx b t) 1 751 1024 codex_1970 :=
  And.intro (okx_751 Hy) (okzx 1775)
theorem anx_1971 (Hy : Hyx tys cA base adS Ex) : xall (fun b t => xOK l Dg clx tys cA flx ftx base adS GWx xyx xcx xnx xrx Ex codex bmx bpx b t) 2 239 512 codex_1971 :=
  And.intro (anx_1969 Hy) (anx_1970 Hy)
theorem anx_1972 (Hy : Hyx tys cA base adS Ex) : xall (fun b t => xOK l Dg clx tys cA flx ftx base adS GWx xyx xcx xnx xrx Ex codex bmx bpx b t) 1 495 1024 codex_1972 :=
  And.intro (okx_495 Hy) (okzx 1519)
theorem anx_1973 (Hy : Hyx tys cA base adS Ex) : xall (fun b t => xOK l Dg clx tys cA flx ftx base adS GWx xyx xcx xnx xrx Ex codex bmx bpx b t) 1 1007 1024 codex_1973 :=
  And.intro (okx_1007 Hy) (okzx 2031)
theorem anx_1974 (Hy : Hyx tys cA base adS Ex) : xall (fun b t => xOK l Dg clx tys cA flx ftx base adS GWx xyx xcx xnx xrx Ex codex bmx bpx b t) 2 495 512 codex_1974 :=
  And.intro (anx_1972 Hy) (anx_1973 Hy)
theorem anx_1975 (Hy : Hyx tys cA base adS Ex) : xall (fun b t => xOK l Dg clx tys cA flx ftx base adS GWx xyx xcx xnx xrx Ex codex bmx bpx b t) 3 239 256 codex_1975 :=
  And.intro (anx_1971 Hy) (anx_1974 Hy)
theorem anx_1976 (Hy : Hyx tys cA base adS Ex) : xall (fun b t => xOK l Dg clx tys cA flx ftx base adS GWx xyx xcx xnx xrx Ex codex bmx bpx b t) 4 111 128 codex_1976 :=
  And.intro (anx_1968 Hy) (anx_1975 Hy)
theorem anx_1977 (Hy : Hyx tys cA base adS Ex) : xall (fun b t => xOK l Dg clx tys cA flx ftx base adS GWx xyx xcx xnx xrx Ex codex bmx bpx b t) 5 47 64 codex_1977 :=
  And.intro (anx_1961 Hy) (anx_1976 Hy)
theorem anx_1978 (Hy : Hyx tys cA base adS Ex) : xall (fun b t => xOK l Dg clx tys cA flx ftx base adS GWx xyx xcx xnx xrx Ex codex bmx bpx b t) 6 15 32 codex_1978 :=
  And.intro (anx_1946 Hy) (anx_1977 Hy)
theorem anx_1979 (Hy : Hyx tys cA base adS Ex) : xall (fun b t => xOK l Dg clx tys cA flx ftx base adS GWx xyx xcx xnx xrx Ex codex bmx bpx b t) 1 31 1024 codex_1979 :=
  And.intro (okx_31 Hy) (okx_1055 Hy)
theorem anx_1980 (Hy : Hyx tys cA base adS Ex) : xall (fun b t => xOK l Dg clx tys cA flx ftx base adS GWx xyx xcx xnx xrx Ex codex bmx bpx b t) 1 543 1024 codex_1980 :=
  And.intro (okx_543 Hy) (okzx 1567)
theorem anx_1981 (Hy : Hyx tys cA base adS Ex) : xall (fun b t => xOK l Dg clx tys cA flx ftx base adS GWx xyx xcx xnx xrx Ex codex bmx bpx b t) 2 31 512 codex_1981 :=
  And.intro (anx_1979 Hy) (anx_1980 Hy)
theorem anx_1982 (Hy : Hyx tys cA base adS Ex) : xall (fun b t => xOK l Dg clx tys cA flx ftx base adS GWx xyx xcx xnx xrx Ex codex bmx bpx b t) 1 287 1024 codex_1982 :=
  And.intro (okx_287 Hy) (okzx 1311)
theorem anx_1983 (Hy : Hyx tys cA base adS Ex) : xall (fun b t => xOK l Dg clx tys cA flx ftx base adS GWx xyx xcx xnx xrx Ex codex bmx bpx b t) 1 799 1024 codex_1983 :=
  And.intro (okx_799 Hy) (okzx 1823)
theorem anx_1984 (Hy : Hyx tys cA base adS Ex) : xall (fun b t => xOK l Dg clx tys cA flx ftx base adS GWx xyx xcx xnx xrx Ex codex bmx bpx b t) 2 287 512 codex_1984 :=
  And.intro (anx_1982 Hy) (anx_1983 Hy)
theorem anx_1985 (Hy : Hyx tys cA base adS Ex) : xall (fun b t => xOK l Dg clx tys cA flx ftx base adS GWx xyx xcx xnx xrx Ex codex bmx bpx b t) 3 31 256 codex_1985 :=
  And.intro (anx_1981 Hy) (anx_1984 Hy)
theorem anx_1986 (Hy : Hyx tys cA base adS Ex) : xall (fun b t => xOK l Dg clx tys cA flx ftx base adS GWx xyx xcx xnx xrx Ex codex bmx bpx b t) 1 159 1024 codex_1986 :=
  And.intro (okx_159 Hy) (okx_1183 Hy)
theorem anx_1987 (Hy : Hyx tys cA base adS Ex) : xall (fun b t => xOK l Dg clx tys cA flx ftx base adS GWx xyx xcx xnx xrx Ex codex bmx bpx b t) 1 671 1024 codex_1987 :=
  And.intro (okx_671 Hy) (okzx 1695)
theorem anx_1988 (Hy : Hyx tys cA base adS Ex) : xall (fun b t => xOK l Dg clx tys cA flx ftx base adS GWx xyx xcx xnx xrx Ex codex bmx bpx b t) 2 159 512 codex_1988 :=
  And.intro (anx_1986 Hy) (anx_1987 Hy)
theorem anx_1989 (Hy : Hyx tys cA base adS Ex) : xall (fun b t => xOK l Dg clx tys cA flx ftx base adS GWx xyx xcx xnx xrx Ex codex bmx bpx b t) 1 415 1024 codex_1989 :=
  And.intro (okx_415 Hy) (okzx 1439)
theorem anx_1990 (Hy : Hyx tys cA base adS Ex) : xall (fun b t => xOK l Dg clx tys cA flx ftx base adS GWx xyx xcx xnx xrx Ex codex bmx bpx b t) 1 927 1024 codex_1990 :=
  And.intro (okx_927 Hy) (okzx 1951)
theorem anx_1991 (Hy : Hyx tys cA base adS Ex) : xall (fun b t => xOK l Dg clx tys cA flx ftx base adS GWx xyx xcx xnx xrx Ex codex bmx bpx b t) 2 415 512 codex_1991 :=
  And.intro (anx_1989 Hy) (anx_1990 Hy)
theorem anx_1992 (Hy : Hyx tys cA base adS Ex) : xall (fun b t => xOK l Dg clx tys cA flx ftx base adS GWx xyx xcx xnx xrx Ex codex bmx bpx b t) 3 159 256 codex_1992 :=
  And.intro (anx_1988 Hy) (anx_1991 Hy)
theorem anx_1993 (Hy : Hyx tys cA base adS Ex) : xall (fun b t => xOK l Dg clx tys cA flx ftx base adS GWx xyx xcx xnx xrx Ex codex bmx bpx b t) 4 31 128 codex_1993 :=
  And.intro (anx_1985 Hy) (anx_1992 Hy)
theorem anx_1994 (Hy : Hyx tys cA base adS Ex) : xall (fun b t => xOK l Dg clx tys cA flx ftx base adS GWx xyx xcx xnx xrx Ex codex bmx bpx b t) 1 95 1024 codex_1994 :=
  And.intro (okx_95 Hy) (okx_1119 Hy)
theorem anx_1995 (Hy : Hyx tys cA base adS Ex) : xall (fun b t => xOK l Dg clx tys cA flx ftx base adS GWx xyx xcx xnx xrx Ex codex bmx bpx b t) 1 607 1024 codex_1995 :=
  And.intro (okx_607 Hy) (okzx 1631)
theorem anx_1996 (Hy : Hyx tys cA base adS Ex) : xall (fun b t => xOK l Dg clx tys cA flx ftx base adS GWx xyx xcx xnx xrx Ex codex bmx bpx b t) 2 95 512 codex_1996 :=
  And.intro (anx_1994 Hy) (anx_1995 Hy)
theorem anx_1997 (Hy : Hyx tys cA base adS Ex) : xall (fun b t => xOK l Dg clx tys cA flx ftx base adS GWx xyx xcx xnx xrx Ex codex bmx bpx b t) 1 351 1024 codex_1997 :=
  And.intro (okx_351 Hy) (okzx 1375)
theorem anx_1998 (Hy : Hyx tys cA base adS Ex) : xall (fun b t => xOK l Dg clx tys cA flx ftx base adS GWx xyx xcx xnx xrx Ex codex bmx bpx b t) 1 863 1024 codex_1998 :=
  And.intro (okx_863 Hy) (okzx 1887)
theorem anx_1999 (Hy : Hyx tys cA base adS Ex) : xall (fun b t => xOK l Dg clx tys cA flx ftx base adS GWx xyx xcx xnx xrx Ex codex bmx bpx b t) 2 351 512 codex_1999 :=
  And.intro (anx_1997 Hy) (anx_1998 Hy)
theorem anx_2000 (Hy : Hyx tys cA base adS Ex) : xall (fun b t => xOK l Dg clx tys cA flx ftx base adS GWx xyx xcx xnx xrx Ex codex bmx bpx b t) 3 95 256 codex_2000 :=
  And.intro (anx_1996 Hy) (anx_1999 Hy)
theorem anx_2001 (Hy : Hyx tys cA base adS Ex) : xall (fun b t => xOK l Dg clx tys cA flx ftx base adS GWx xyx xcx xnx xrx Ex codex bmx bpx b t) 1 223 1024 codex_2001 :=
  And.intro (okx_223 Hy) (okzx 1247)
theorem anx_2002 (Hy : Hyx tys cA base adS Ex) : xall (fun b t => xOK l Dg clx tys cA flx ftx base adS GWx xyx xcx xnx xrx Ex codex bmx bpx b t) 1 735 1024 codex_2002 :=
  And.intro (okx_735 Hy) (okzx 1759)
theorem anx_2003 (Hy : Hyx tys cA base adS Ex) : xall (fun b t => xOK l Dg clx tys cA flx ftx base adS GWx xyx xcx xnx xrx Ex codex bmx bpx b t) 2 223 512 codex_2003 :=
  And.intro (anx_2001 Hy) (anx_2002 Hy)
theorem anx_2004 (Hy : Hyx tys cA base adS Ex) : xall (fun b t => xOK l Dg clx tys cA flx ftx base adS GWx xyx xcx xnx xrx Ex codex bmx bpx b t) 1 479 1024 codex_2004 :=
  And.intro (okx_479 Hy) (okzx 1503)
theorem anx_2005 (Hy : Hyx tys cA base adS Ex) : xall (fun b t => xOK l Dg clx tys cA flx ftx base adS GWx xyx xcx xnx xrx Ex codex bmx bpx b t) 1 991 1024 codex_2005 :=
  And.intro (okx_991 Hy) (okzx 2015)
theorem anx_2006 (Hy : Hyx tys cA base adS Ex) : xall (fun b t => xOK l Dg clx tys cA flx ftx base adS GWx xyx xcx xnx xrx Ex codex bmx bpx b t) 2 479 512 codex_2006 :=
  And.intro (anx_2004 Hy) (anx_2005 Hy)
theorem anx_2007 (Hy : Hyx tys cA base adS Ex) : xall (fun b t => xOK l Dg clx tys cA flx ftx base adS GWx xyx xcx xnx xrx Ex codex bmx bpx b t) 3 223 256 codex_2007 :=
  And.intro (anx_2003 Hy) (anx_2006 Hy)
theorem anx_2008 (Hy : Hyx tys cA base adS Ex) : xall (fun b t => xOK l Dg clx tys cA flx ftx base adS GWx xyx xcx xnx xrx Ex codex bmx bpx b t) 4 95 128 codex_2008 :=
  And.intro (anx_2000 Hy) (anx_2007 Hy)
theorem anx_2009 (Hy : Hyx tys cA base adS Ex) : xall (fun b t => xOK l Dg clx tys cA flx ftx base adS GWx xyx xcx xnx xrx Ex codex bmx bpx b t) 5 31 64 codex_2009 :=
  And.intro (anx_1993 Hy) (anx_2008 Hy)
theorem anx_2010 (Hy : Hyx tys cA base adS Ex) : xall (fun b t => xOK l Dg clx tys cA flx ftx base adS GWx xyx xcx xnx xrx Ex codex bmx bpx b t) 1 63 1024 codex_2010 :=
  And.intro (okx_63 Hy) (okx_1087 Hy)
theorem anx_2011 (Hy : Hyx tys cA base adS Ex) : xall (fun b t => xOK l Dg clx tys cA flx ftx base adS GWx xyx xcx xnx xrx Ex codex bmx bpx b t) 1 575 1024 codex_2011 :=
  And.intro (okx_575 Hy) (okzx 1599)
theorem anx_2012 (Hy : Hyx tys cA base adS Ex) : xall (fun b t => xOK l Dg clx tys cA flx ftx base adS GWx xyx xcx xnx xrx Ex codex bmx bpx b t) 2 63 512 codex_2012 :=
  And.intro (anx_2010 Hy) (anx_2011 Hy)
theorem anx_2013 (Hy : Hyx tys cA base adS Ex) : xall (fun b t => xOK l Dg clx tys cA flx ftx base adS GWx xyx xcx xnx xrx Ex codex bmx bpx b t) 1 319 1024 codex_2013 :=
  And.intro (okx_319 Hy) (okzx 1343)
theorem anx_2014 (Hy : Hyx tys cA base adS Ex) : xall (fun b t => xOK l Dg clx tys cA flx ftx base adS GWx xyx xcx xnx xrx Ex codex bmx bpx b t) 1 831 1024 codex_2014 :=
  And.intro (okx_831 Hy) (okzx 1855)
theorem anx_2015 (Hy : Hyx tys cA base adS Ex) : xall (fun b t => xOK l Dg clx tys cA flx ftx base adS GWx xyx xcx xnx xrx Ex codex bmx bpx b t) 2 319 512 codex_2015 :=
  And.intro (anx_2013 Hy) (anx_2014 Hy)
theorem anx_2016 (Hy : Hyx tys cA base adS Ex) : xall (fun b t => xOK l Dg clx tys cA flx ftx base adS GWx xyx xcx xnx xrx Ex codex bmx bpx b t) 3 63 256 codex_2016 :=
  And.intro (anx_2012 Hy) (anx_2015 Hy)
theorem anx_2017 (Hy : Hyx tys cA base adS Ex) : xall (fun b t => xOK l Dg clx tys cA flx ftx base adS GWx xyx xcx xnx xrx Ex codex bmx bpx b t) 1 191 1024 codex_2017 :=
  And.intro (okx_191 Hy) (okzx 1215)
theorem anx_2018 (Hy : Hyx tys cA base adS Ex) : xall (fun b t => xOK l Dg clx tys cA flx ftx base adS GWx xyx xcx xnx xrx Ex codex bmx bpx b t) 1 703 1024 codex_2018 :=
  And.intro (okx_703 Hy) (okzx 1727)
theorem anx_2019 (Hy : Hyx tys cA base adS Ex) : xall (fun b t => xOK l Dg clx tys cA flx ftx base adS GWx xyx xcx xnx xrx Ex codex bmx bpx b t) 2 191 512 codex_2019 :=
  And.intro (anx_2017 Hy) (anx_2018 Hy)
theorem anx_2020 (Hy : Hyx tys cA base adS Ex) : xall (fun b t => xOK l Dg clx tys cA flx ftx base adS GWx xyx xcx xnx xrx Ex codex bmx bpx b t) 1 447 1024 codex_2020 :=
  And.intro (okx_447 Hy) (okzx 1471)
theorem anx_2021 (Hy : Hyx tys cA base adS Ex) : xall (fun b t => xOK l Dg clx tys cA flx ftx base adS GWx xyx xcx xnx xrx Ex codex bmx bpx b t) 1 959 1024 codex_2021 :=
  And.intro (okx_959 Hy) (okzx 1983)
theorem anx_2022 (Hy : Hyx tys cA base adS Ex) : xall (fun b t => xOK l Dg clx tys cA flx ftx base adS GWx xyx xcx xnx xrx Ex codex bmx bpx b t) 2 447 512 codex_2022 :=
  And.intro (anx_2020 Hy) (anx_2021 Hy)
theorem anx_2023 (Hy : Hyx tys cA base adS Ex) : xall (fun b t => xOK l Dg clx tys cA flx ftx base adS GWx xyx xcx xnx xrx Ex codex bmx bpx b t) 3 191 256 codex_2023 :=
  And.intro (anx_2019 Hy) (anx_2022 Hy)
theorem anx_2024 (Hy : Hyx tys cA base adS Ex) : xall (fun b t => xOK l Dg clx tys cA flx ftx base adS GWx xyx xcx xnx xrx Ex codex bmx bpx b t) 4 63 128 codex_2024 :=
  And.intro (anx_2016 Hy) (anx_2023 Hy)
theorem anx_2025 (Hy : Hyx tys cA base adS Ex) : xall (fun b t => xOK l Dg clx tys cA flx ftx base adS GWx xyx xcx xnx xrx Ex codex bmx bpx b t) 1 127 1024 codex_2025 :=
  And.intro (okx_127 Hy) (okx_1151 Hy)
theorem anx_2026 (Hy : Hyx tys cA base adS Ex) : xall (fun b t => xOK l Dg clx tys cA flx ftx base adS GWx xyx xcx xnx xrx Ex codex bmx bpx b t) 1 639 1024 codex_2026 :=
  And.intro (okx_639 Hy) (okzx 1663)
theorem anx_2027 (Hy : Hyx tys cA base adS Ex) : xall (fun b t => xOK l Dg clx tys cA flx ftx base adS GWx xyx xcx xnx xrx Ex codex bmx bpx b t) 2 127 512 codex_2027 :=
  And.intro (anx_2025 Hy) (anx_2026 Hy)
theorem anx_2028 (Hy : Hyx tys cA base adS Ex) : xall (fun b t => xOK l Dg clx tys cA flx ftx base adS GWx xyx xcx xnx xrx Ex codex bmx bpx b t) 1 383 1024 codex_2028 :=
  And.intro (okx_383 Hy) (okzx 1407)
theorem anx_2029 (Hy : Hyx tys cA base adS Ex) : xall (fun b t => xOK l Dg clx tys cA flx ftx base adS GWx xyx xcx xnx xrx Ex codex bmx bpx b t) 1 895 1024 codex_2029 :=
  And.intro (okx_895 Hy) (okzx 1919)
theorem anx_2030 (Hy : Hyx tys cA base adS Ex) : xall (fun b t => xOK l Dg clx tys cA flx ftx base adS GWx xyx xcx xnx xrx Ex codex bmx bpx b t) 2 383 512 codex_2030 :=
  And.intro (anx_2028 Hy) (anx_2029 Hy)
theorem anx_2031 (Hy : Hyx tys cA base adS Ex) : xall (fun b t => xOK l Dg clx tys cA flx ftx base adS GWx xyx xcx xnx xrx Ex codex bmx bpx b t) 3 127 256 codex_2031 :=
  And.intro (anx_2027 Hy) (anx_2030 Hy)
theorem anx_2032 (Hy : Hyx tys cA base adS Ex) : xall (fun b t => xOK l Dg clx tys cA flx ftx base adS GWx xyx xcx xnx xrx Ex codex bmx bpx b t) 1 255 1024 codex_2032 :=
  And.intro (okx_255 Hy) (okzx 1279)
theorem anx_2033 (Hy : Hyx tys cA base adS Ex) : xall (fun b t => xOK l Dg clx tys cA flx ftx base adS GWx xyx xcx xnx xrx Ex codex bmx bpx b t) 1 767 1024 codex_2033 :=
  And.intro (okx_767 Hy) (okzx 1791)
theorem anx_2034 (Hy : Hyx tys cA base adS Ex) : xall (fun b t => xOK l Dg clx tys cA flx ftx base adS GWx xyx xcx xnx xrx Ex codex bmx bpx b t) 2 255 512 codex_2034 :=
  And.intro (anx_2032 Hy) (anx_2033 Hy)
theorem anx_2035 (Hy : Hyx tys cA base adS Ex) : xall (fun b t => xOK l Dg clx tys cA flx ftx base adS GWx xyx xcx xnx xrx Ex codex bmx bpx b t) 1 511 1024 codex_2035 :=
  And.intro (okx_511 Hy) (okzx 1535)
theorem anx_2036 (Hy : Hyx tys cA base adS Ex) : xall (fun b t => xOK l Dg clx tys cA flx ftx base adS GWx xyx xcx xnx xrx Ex codex bmx bpx b t) 1 1023 1024 codex_2036 :=
  And.intro (okx_1023 Hy) (okzx 2047)
theorem anx_2037 (Hy : Hyx tys cA base adS Ex) : xall (fun b t => xOK l Dg clx tys cA flx ftx base adS GWx xyx xcx xnx xrx Ex codex bmx bpx b t) 2 511 512 codex_2037 :=
  And.intro (anx_2035 Hy) (anx_2036 Hy)
theorem anx_2038 (Hy : Hyx tys cA base adS Ex) : xall (fun b t => xOK l Dg clx tys cA flx ftx base adS GWx xyx xcx xnx xrx Ex codex bmx bpx b t) 3 255 256 codex_2038 :=
  And.intro (anx_2034 Hy) (anx_2037 Hy)
theorem anx_2039 (Hy : Hyx tys cA base adS Ex) : xall (fun b t => xOK l Dg clx tys cA flx ftx base adS GWx xyx xcx xnx xrx Ex codex bmx bpx b t) 4 127 128 codex_2039 :=
  And.intro (anx_2031 Hy) (anx_2038 Hy)
theorem anx_2040 (Hy : Hyx tys cA base adS Ex) : xall (fun b t => xOK l Dg clx tys cA flx ftx base adS GWx xyx xcx xnx xrx Ex codex bmx bpx b t) 5 63 64 codex_2040 :=
  And.intro (anx_2024 Hy) (anx_2039 Hy)
theorem anx_2041 (Hy : Hyx tys cA base adS Ex) : xall (fun b t => xOK l Dg clx tys cA flx ftx base adS GWx xyx xcx xnx xrx Ex codex bmx bpx b t) 6 31 32 codex_2041 :=
  And.intro (anx_2009 Hy) (anx_2040 Hy)
theorem anx_2042 (Hy : Hyx tys cA base adS Ex) : xall (fun b t => xOK l Dg clx tys cA flx ftx base adS GWx xyx xcx xnx xrx Ex codex bmx bpx b t) 7 15 16 codex_2042 :=
  And.intro (anx_1978 Hy) (anx_2041 Hy)
theorem anx_2043 (Hy : Hyx tys cA base adS Ex) : xall (fun b t => xOK l Dg clx tys cA flx ftx base adS GWx xyx xcx xnx xrx Ex codex bmx bpx b t) 8 7 8 codex_2043 :=
  And.intro (anx_1915 Hy) (anx_2042 Hy)
theorem anx_2044 (Hy : Hyx tys cA base adS Ex) : xall (fun b t => xOK l Dg clx tys cA flx ftx base adS GWx xyx xcx xnx xrx Ex codex bmx bpx b t) 9 3 4 codex_2044 :=
  And.intro (anx_1788 Hy) (anx_2043 Hy)
theorem anx_2045 (Hy : Hyx tys cA base adS Ex) : xall (fun b t => xOK l Dg clx tys cA flx ftx base adS GWx xyx xcx xnx xrx Ex codex bmx bpx b t) 10 1 2 codex_2045 :=
  And.intro (anx_1533 Hy) (anx_2044 Hy)
theorem anx (Hy : Hyx tys cA base adS Ex) : xall (fun b t => xOK l Dg clx tys cA flx ftx base adS GWx xyx xcx xnx xrx Ex codex bmx bpx b t) 11 0 1 codex :=
  And.intro (anx_1022 Hy) (anx_2045 Hy)
theorem modx (b : Nat) : bmx b = bmx (b % 2 ^ 11) ∧ bpx b = bpx (b % 2 ^ 11) := ⟨congrArg Prod.fst (xget_mod 11 mpx b), congrArg Prod.snd (xget_mod 11 mpx b)⟩
theorem allx (Hy : Hyx tys cA base adS Ex) : ∀ b, b < 2 ^ 11 → xOK l Dg clx tys cA flx ftx base adS GWx xyx xcx xnx xrx Ex codex bmx bpx b (xget 11 codex b) := fun b hb => by
  have h := xall_get 11 0 1 codex (anx (l := l) (Dg := Dg) Hy) b hb
  rw [Nat.zero_add, Nat.one_mul] at h
  exact h
theorem soundx (Hy : Hyx tys cA base adS Ex) : ∀ K, xIH l Dg clx tys cA flx ftx base adS GWx xyx xcx xnx xrx Ex codex bmx bpx K := x_sound modx (allx Hy)
end
