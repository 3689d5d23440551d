/-! ===== the law, case by case, by program ===== -/
theorem dL_law_716 : decode cL_law 716 = .ok (.aload_n 1, 1) := by decide +kernel
theorem dL_law_717 : decode cL_law 717 = .ok (.aload_n 0, 1) := by decide +kernel
theorem dL_law_718 : decode cL_law 718 = .ok (.iload 4, 2) := by decide +kernel
theorem dL_law_720 : decode cL_law 720 = .ok (.iconst 1, 1) := by decide +kernel
theorem dL_law_721 : decode cL_law 721 = .ok (.iadd, 1) := by decide +kernel
theorem dL_law_722 : decode cL_law 722 = .ok (.iaload, 1) := by decide +kernel
theorem dL_law_723 : decode cL_law 723 = .ok (.aload_n 0, 1) := by decide +kernel
theorem dL_law_724 : decode cL_law 724 = .ok (.iload 4, 2) := by decide +kernel
theorem dL_law_726 : decode cL_law 726 = .ok (.iconst 2, 1) := by decide +kernel
theorem dL_law_727 : decode cL_law 727 = .ok (.iadd, 1) := by decide +kernel
theorem dL_law_728 : decode cL_law 728 = .ok (.iaload, 1) := by decide +kernel
theorem dL_law_729 : decode cL_law 729 = .ok (.invokevirtual 92, 3) := by decide +kernel
theorem dL_law_732 : decode cL_law 732 = .ok (.aload_n 2, 1) := by decide +kernel
theorem dL_law_733 : decode cL_law 733 = .ok (.aload_n 0, 1) := by decide +kernel
theorem dL_law_734 : decode cL_law 734 = .ok (.iload 4, 2) := by decide +kernel
theorem dL_law_736 : decode cL_law 736 = .ok (.iconst 1, 1) := by decide +kernel
theorem dL_law_737 : decode cL_law 737 = .ok (.iadd, 1) := by decide +kernel
theorem dL_law_738 : decode cL_law 738 = .ok (.iaload, 1) := by decide +kernel
theorem dL_law_739 : decode cL_law 739 = .ok (.aload_n 0, 1) := by decide +kernel
theorem dL_law_740 : decode cL_law 740 = .ok (.iload 4, 2) := by decide +kernel
theorem dL_law_742 : decode cL_law 742 = .ok (.iconst 2, 1) := by decide +kernel
theorem dL_law_743 : decode cL_law 743 = .ok (.iadd, 1) := by decide +kernel
theorem dL_law_744 : decode cL_law 744 = .ok (.iaload, 1) := by decide +kernel
theorem dL_law_745 : decode cL_law 745 = .ok (.invokevirtual 95, 3) := by decide +kernel
theorem dL_law_748 : decode cL_law 748 = .ok (.if_icmp .eq 765, 3) := by decide +kernel
theorem dL_law_753 : decode cL_law 753 = .ok (.aload_n 1, 1) := by decide +kernel
theorem dL_law_754 : decode cL_law 754 = .ok (.aload_n 0, 1) := by decide +kernel
theorem dL_law_755 : decode cL_law 755 = .ok (.iload 4, 2) := by decide +kernel
theorem dL_law_757 : decode cL_law 757 = .ok (.iconst 1, 1) := by decide +kernel
theorem dL_law_758 : decode cL_law 758 = .ok (.iadd, 1) := by decide +kernel
theorem dL_law_759 : decode cL_law 759 = .ok (.iaload, 1) := by decide +kernel
theorem dL_law_760 : decode cL_law 760 = .ok (.aload_n 0, 1) := by decide +kernel
theorem dL_law_761 : decode cL_law 761 = .ok (.iload 4, 2) := by decide +kernel
theorem dL_law_763 : decode cL_law 763 = .ok (.iconst 2, 1) := by decide +kernel
theorem dL_law_764 : decode cL_law 764 = .ok (.iadd, 1) := by decide +kernel
theorem dL_law_765 : decode cL_law 765 = .ok (.iaload, 1) := by decide +kernel
theorem dL_law_766 : decode cL_law 766 = .ok (.invokevirtual 96, 3) := by decide +kernel
theorem dL_law_769 : decode cL_law 769 = .ok (.aload_n 2, 1) := by decide +kernel
theorem dL_law_770 : decode cL_law 770 = .ok (.aload_n 0, 1) := by decide +kernel
theorem dL_law_771 : decode cL_law 771 = .ok (.iload 4, 2) := by decide +kernel
theorem dL_law_773 : decode cL_law 773 = .ok (.iconst 1, 1) := by decide +kernel
theorem dL_law_774 : decode cL_law 774 = .ok (.iadd, 1) := by decide +kernel
theorem dL_law_775 : decode cL_law 775 = .ok (.iaload, 1) := by decide +kernel
theorem dL_law_776 : decode cL_law 776 = .ok (.aload_n 0, 1) := by decide +kernel
theorem dL_law_777 : decode cL_law 777 = .ok (.iload 4, 2) := by decide +kernel
theorem dL_law_779 : decode cL_law 779 = .ok (.iconst 2, 1) := by decide +kernel
theorem dL_law_780 : decode cL_law 780 = .ok (.iadd, 1) := by decide +kernel
theorem dL_law_781 : decode cL_law 781 = .ok (.iaload, 1) := by decide +kernel
theorem dL_law_782 : decode cL_law 782 = .ok (.invokevirtual 99, 3) := by decide +kernel
theorem dL_law_785 : decode cL_law 785 = .ok (.if_icmp .eq 728, 3) := by decide +kernel
theorem dL_law_790 : decode cL_law 790 = .ok (.aload_n 1, 1) := by decide +kernel
theorem dL_law_791 : decode cL_law 791 = .ok (.aload_n 0, 1) := by decide +kernel
theorem dL_law_792 : decode cL_law 792 = .ok (.iload 4, 2) := by decide +kernel
theorem dL_law_794 : decode cL_law 794 = .ok (.iconst 1, 1) := by decide +kernel
theorem dL_law_795 : decode cL_law 795 = .ok (.iadd, 1) := by decide +kernel
theorem dL_law_796 : decode cL_law 796 = .ok (.iaload, 1) := by decide +kernel
theorem dL_law_797 : decode cL_law 797 = .ok (.aload_n 0, 1) := by decide +kernel
theorem dL_law_798 : decode cL_law 798 = .ok (.iload 4, 2) := by decide +kernel
theorem dL_law_800 : decode cL_law 800 = .ok (.iconst 2, 1) := by decide +kernel
theorem dL_law_801 : decode cL_law 801 = .ok (.iadd, 1) := by decide +kernel
theorem dL_law_802 : decode cL_law 802 = .ok (.iaload, 1) := by decide +kernel
theorem dL_law_803 : decode cL_law 803 = .ok (.invokevirtual 100, 3) := by decide +kernel
theorem dL_law_806 : decode cL_law 806 = .ok (.aload_n 2, 1) := by decide +kernel
theorem dL_law_807 : decode cL_law 807 = .ok (.aload_n 0, 1) := by decide +kernel
theorem dL_law_808 : decode cL_law 808 = .ok (.iload 4, 2) := by decide +kernel
theorem dL_law_810 : decode cL_law 810 = .ok (.iconst 1, 1) := by decide +kernel
theorem dL_law_811 : decode cL_law 811 = .ok (.iadd, 1) := by decide +kernel
theorem dL_law_812 : decode cL_law 812 = .ok (.iaload, 1) := by decide +kernel
theorem dL_law_813 : decode cL_law 813 = .ok (.aload_n 0, 1) := by decide +kernel
theorem dL_law_814 : decode cL_law 814 = .ok (.iload 4, 2) := by decide +kernel
theorem dL_law_816 : decode cL_law 816 = .ok (.iconst 2, 1) := by decide +kernel
theorem dL_law_817 : decode cL_law 817 = .ok (.iadd, 1) := by decide +kernel
theorem dL_law_818 : decode cL_law 818 = .ok (.iaload, 1) := by decide +kernel
theorem dL_law_819 : decode cL_law 819 = .ok (.invokevirtual 103, 3) := by decide +kernel
theorem dL_law_822 : decode cL_law 822 = .ok (.if_icmp .eq 691, 3) := by decide +kernel
theorem dL_law_827 : decode cL_law 827 = .ok (.aload_n 1, 1) := by decide +kernel
theorem dL_law_828 : decode cL_law 828 = .ok (.aload_n 0, 1) := by decide +kernel
theorem dL_law_829 : decode cL_law 829 = .ok (.iload 4, 2) := by decide +kernel
theorem dL_law_831 : decode cL_law 831 = .ok (.iconst 1, 1) := by decide +kernel
theorem dL_law_832 : decode cL_law 832 = .ok (.iadd, 1) := by decide +kernel
theorem dL_law_833 : decode cL_law 833 = .ok (.iaload, 1) := by decide +kernel
theorem dL_law_834 : decode cL_law 834 = .ok (.aload_n 0, 1) := by decide +kernel
theorem dL_law_835 : decode cL_law 835 = .ok (.iload 4, 2) := by decide +kernel
theorem dL_law_837 : decode cL_law 837 = .ok (.iconst 2, 1) := by decide +kernel
theorem dL_law_838 : decode cL_law 838 = .ok (.iadd, 1) := by decide +kernel
theorem dL_law_839 : decode cL_law 839 = .ok (.iaload, 1) := by decide +kernel
theorem dL_law_840 : decode cL_law 840 = .ok (.invokevirtual 104, 3) := by decide +kernel
theorem dL_law_843 : decode cL_law 843 = .ok (.aload_n 2, 1) := by decide +kernel
theorem dL_law_844 : decode cL_law 844 = .ok (.aload_n 0, 1) := by decide +kernel
theorem dL_law_845 : decode cL_law 845 = .ok (.iload 4, 2) := by decide +kernel
theorem dL_law_847 : decode cL_law 847 = .ok (.iconst 1, 1) := by decide +kernel
theorem dL_law_848 : decode cL_law 848 = .ok (.iadd, 1) := by decide +kernel
theorem dL_law_849 : decode cL_law 849 = .ok (.iaload, 1) := by decide +kernel
theorem dL_law_850 : decode cL_law 850 = .ok (.aload_n 0, 1) := by decide +kernel
theorem dL_law_851 : decode cL_law 851 = .ok (.iload 4, 2) := by decide +kernel
theorem dL_law_853 : decode cL_law 853 = .ok (.iconst 2, 1) := by decide +kernel
theorem dL_law_854 : decode cL_law 854 = .ok (.iadd, 1) := by decide +kernel
theorem dL_law_855 : decode cL_law 855 = .ok (.iaload, 1) := by decide +kernel
theorem dL_law_856 : decode cL_law 856 = .ok (.invokevirtual 107, 3) := by decide +kernel
theorem dL_law_859 : decode cL_law 859 = .ok (.if_icmp .eq 654, 3) := by decide +kernel
theorem dL_law_864 : decode cL_law 864 = .ok (.aload_n 1, 1) := by decide +kernel
theorem dL_law_865 : decode cL_law 865 = .ok (.aload_n 0, 1) := by decide +kernel
theorem dL_law_866 : decode cL_law 866 = .ok (.iload 4, 2) := by decide +kernel
theorem dL_law_868 : decode cL_law 868 = .ok (.iconst 1, 1) := by decide +kernel
theorem dL_law_869 : decode cL_law 869 = .ok (.iadd, 1) := by decide +kernel
theorem dL_law_870 : decode cL_law 870 = .ok (.iaload, 1) := by decide +kernel
theorem dL_law_871 : decode cL_law 871 = .ok (.aload_n 0, 1) := by decide +kernel
theorem dL_law_872 : decode cL_law 872 = .ok (.iload 4, 2) := by decide +kernel
theorem dL_law_874 : decode cL_law 874 = .ok (.iconst 2, 1) := by decide +kernel
theorem dL_law_875 : decode cL_law 875 = .ok (.iadd, 1) := by decide +kernel
theorem dL_law_876 : decode cL_law 876 = .ok (.iaload, 1) := by decide +kernel
theorem dL_law_877 : decode cL_law 877 = .ok (.aload_n 3, 1) := by decide +kernel
theorem dL_law_878 : decode cL_law 878 = .ok (.invokestatic 108, 3) := by decide +kernel
theorem dL_law_881 : decode cL_law 881 = .ok (.istore 5, 2) := by decide +kernel
theorem dL_law_883 : decode cL_law 883 = .ok (.aload_n 2, 1) := by decide +kernel
theorem dL_law_884 : decode cL_law 884 = .ok (.aload_n 0, 1) := by decide +kernel
theorem dL_law_885 : decode cL_law 885 = .ok (.iload 4, 2) := by decide +kernel
theorem dL_law_887 : decode cL_law 887 = .ok (.iconst 1, 1) := by decide +kernel
theorem dL_law_888 : decode cL_law 888 = .ok (.iadd, 1) := by decide +kernel
theorem dL_law_889 : decode cL_law 889 = .ok (.iaload, 1) := by decide +kernel
theorem dL_law_890 : decode cL_law 890 = .ok (.aload_n 0, 1) := by decide +kernel
theorem dL_law_891 : decode cL_law 891 = .ok (.iload 4, 2) := by decide +kernel
theorem dL_law_893 : decode cL_law 893 = .ok (.iconst 2, 1) := by decide +kernel
theorem dL_law_894 : decode cL_law 894 = .ok (.iadd, 1) := by decide +kernel
theorem dL_law_895 : decode cL_law 895 = .ok (.iaload, 1) := by decide +kernel
theorem dL_law_896 : decode cL_law 896 = .ok (.invokevirtual 110, 3) := by decide +kernel
theorem dL_law_899 : decode cL_law 899 = .ok (.istore 6, 2) := by decide +kernel
theorem dL_law_901 : decode cL_law 901 = .ok (.aload_n 2, 1) := by decide +kernel
theorem dL_law_902 : decode cL_law 902 = .ok (.invokevirtual 53, 3) := by decide +kernel
theorem dL_law_905 : decode cL_law 905 = .ok (.iload 5, 2) := by decide +kernel
theorem dL_law_907 : decode cL_law 907 = .ok (.if_icmp .eq 5, 3) := by decide +kernel
theorem dL_law_912 : decode cL_law 912 = .ok (.iload 5, 2) := by decide +kernel
theorem dL_law_914 : decode cL_law 914 = .ok (.ifCond .ne 15, 3) := by decide +kernel
theorem dL_law_917 : decode cL_law 917 = .ok (.aload_n 3, 1) := by decide +kernel
theorem dL_law_918 : decode cL_law 918 = .ok (.iconst 0, 1) := by decide +kernel
theorem dL_law_919 : decode cL_law 919 = .ok (.laload, 1) := by decide +kernel
theorem dL_law_920 : decode cL_law 920 = .ok (.iload 6, 2) := by decide +kernel
theorem dL_law_922 : decode cL_law 922 = .ok (.i2l, 1) := by decide +kernel
theorem dL_law_923 : decode cL_law 923 = .ok (.lcmp, 1) := by decide +kernel
theorem dL_law_924 : decode cL_law 924 = .ok (.ifCond .eq 5, 3) := by decide +kernel
theorem dL_law_929 : decode cL_law 929 = .ok (.goto 584, 3) := by decide +kernel
theorem dL_law_932 : decode cL_law 932 = .ok (.aload_n 1, 1) := by decide +kernel
theorem dL_law_933 : decode cL_law 933 = .ok (.invokevirtual 111, 3) := by decide +kernel
theorem dL_law_936 : decode cL_law 936 = .ok (.aload_n 2, 1) := by decide +kernel
theorem dL_law_937 : decode cL_law 937 = .ok (.invokevirtual 114, 3) := by decide +kernel
theorem dL_law_940 : decode cL_law 940 = .ok (.if_icmp .eq 573, 3) := by decide +kernel
theorem dL_law_945 : decode cL_law 945 = .ok (.aload_n 1, 1) := by decide +kernel
theorem dL_law_946 : decode cL_law 946 = .ok (.aload_n 0, 1) := by decide +kernel
theorem dL_law_947 : decode cL_law 947 = .ok (.iload 4, 2) := by decide +kernel
theorem dL_law_949 : decode cL_law 949 = .ok (.iconst 1, 1) := by decide +kernel
theorem dL_law_950 : decode cL_law 950 = .ok (.iadd, 1) := by decide +kernel
theorem dL_law_951 : decode cL_law 951 = .ok (.iaload, 1) := by decide +kernel
theorem dL_law_952 : decode cL_law 952 = .ok (.invokevirtual 115, 3) := by decide +kernel
theorem dL_law_955 : decode cL_law 955 = .ok (.aload_n 2, 1) := by decide +kernel
theorem dL_law_956 : decode cL_law 956 = .ok (.aload_n 0, 1) := by decide +kernel
theorem dL_law_957 : decode cL_law 957 = .ok (.iload 4, 2) := by decide +kernel
theorem dL_law_959 : decode cL_law 959 = .ok (.iconst 1, 1) := by decide +kernel
theorem dL_law_960 : decode cL_law 960 = .ok (.iadd, 1) := by decide +kernel
theorem dL_law_961 : decode cL_law 961 = .ok (.iaload, 1) := by decide +kernel
theorem dL_law_962 : decode cL_law 962 = .ok (.invokevirtual 118, 3) := by decide +kernel
theorem dL_law_965 : decode cL_law 965 = .ok (.if_icmp .eq 548, 3) := by decide +kernel
theorem dL_law_970 : decode cL_law 970 = .ok (.aload_n 1, 1) := by decide +kernel
theorem dL_law_971 : decode cL_law 971 = .ok (.aload_n 0, 1) := by decide +kernel
theorem dL_law_972 : decode cL_law 972 = .ok (.iload 4, 2) := by decide +kernel
theorem dL_law_974 : decode cL_law 974 = .ok (.iconst 1, 1) := by decide +kernel
theorem dL_law_975 : decode cL_law 975 = .ok (.iadd, 1) := by decide +kernel
theorem dL_law_976 : decode cL_law 976 = .ok (.iaload, 1) := by decide +kernel
theorem dL_law_977 : decode cL_law 977 = .ok (.invokevirtual 119, 3) := by decide +kernel
theorem dL_law_980 : decode cL_law 980 = .ok (.aload_n 2, 1) := by decide +kernel
theorem dL_law_981 : decode cL_law 981 = .ok (.aload_n 0, 1) := by decide +kernel
theorem dL_law_982 : decode cL_law 982 = .ok (.iload 4, 2) := by decide +kernel
theorem dL_law_984 : decode cL_law 984 = .ok (.iconst 1, 1) := by decide +kernel
theorem dL_law_985 : decode cL_law 985 = .ok (.iadd, 1) := by decide +kernel
theorem dL_law_986 : decode cL_law 986 = .ok (.iaload, 1) := by decide +kernel
theorem dL_law_987 : decode cL_law 987 = .ok (.invokevirtual 122, 3) := by decide +kernel
theorem dL_law_990 : decode cL_law 990 = .ok (.if_icmp .eq 523, 3) := by decide +kernel
theorem dL_law_995 : decode cL_law 995 = .ok (.aload_n 1, 1) := by decide +kernel
theorem dL_law_996 : decode cL_law 996 = .ok (.aload_n 0, 1) := by decide +kernel
theorem dL_law_997 : decode cL_law 997 = .ok (.iload 4, 2) := by decide +kernel
theorem dL_law_999 : decode cL_law 999 = .ok (.iconst 1, 1) := by decide +kernel
theorem dL_law_1000 : decode cL_law 1000 = .ok (.iadd, 1) := by decide +kernel
theorem dL_law_1001 : decode cL_law 1001 = .ok (.iaload, 1) := by decide +kernel
theorem dL_law_1002 : decode cL_law 1002 = .ok (.invokevirtual 123, 3) := by decide +kernel
theorem dL_law_1005 : decode cL_law 1005 = .ok (.aload_n 2, 1) := by decide +kernel
theorem dL_law_1006 : decode cL_law 1006 = .ok (.aload_n 0, 1) := by decide +kernel
theorem dL_law_1007 : decode cL_law 1007 = .ok (.iload 4, 2) := by decide +kernel
theorem dL_law_1009 : decode cL_law 1009 = .ok (.iconst 1, 1) := by decide +kernel
theorem dL_law_1010 : decode cL_law 1010 = .ok (.iadd, 1) := by decide +kernel
theorem dL_law_1011 : decode cL_law 1011 = .ok (.iaload, 1) := by decide +kernel
theorem dL_law_1012 : decode cL_law 1012 = .ok (.invokevirtual 126, 3) := by decide +kernel
theorem dL_law_1015 : decode cL_law 1015 = .ok (.if_icmp .eq 498, 3) := by decide +kernel
theorem dL_law_1020 : decode cL_law 1020 = .ok (.aload_n 1, 1) := by decide +kernel
theorem dL_law_1021 : decode cL_law 1021 = .ok (.aload_n 0, 1) := by decide +kernel
theorem dL_law_1022 : decode cL_law 1022 = .ok (.iload 4, 2) := by decide +kernel
theorem dL_law_1024 : decode cL_law 1024 = .ok (.iconst 1, 1) := by decide +kernel
theorem dL_law_1025 : decode cL_law 1025 = .ok (.iadd, 1) := by decide +kernel
theorem dL_law_1026 : decode cL_law 1026 = .ok (.iaload, 1) := by decide +kernel
theorem dL_law_1027 : decode cL_law 1027 = .ok (.invokevirtual 127, 3) := by decide +kernel
theorem dL_law_1030 : decode cL_law 1030 = .ok (.aload_n 2, 1) := by decide +kernel
theorem dL_law_1031 : decode cL_law 1031 = .ok (.aload_n 0, 1) := by decide +kernel
theorem dL_law_1032 : decode cL_law 1032 = .ok (.iload 4, 2) := by decide +kernel
theorem dL_law_1034 : decode cL_law 1034 = .ok (.iconst 1, 1) := by decide +kernel
theorem dL_law_1035 : decode cL_law 1035 = .ok (.iadd, 1) := by decide +kernel
theorem dL_law_1036 : decode cL_law 1036 = .ok (.iaload, 1) := by decide +kernel
theorem dL_law_1037 : decode cL_law 1037 = .ok (.invokevirtual 130, 3) := by decide +kernel
theorem dL_law_1040 : decode cL_law 1040 = .ok (.if_icmp .eq 473, 3) := by decide +kernel
theorem dL_law_1045 : decode cL_law 1045 = .ok (.aload_n 1, 1) := by decide +kernel
theorem dL_law_1046 : decode cL_law 1046 = .ok (.aload_n 0, 1) := by decide +kernel
theorem dL_law_1047 : decode cL_law 1047 = .ok (.iload 4, 2) := by decide +kernel
theorem dL_law_1049 : decode cL_law 1049 = .ok (.iconst 1, 1) := by decide +kernel
theorem dL_law_1050 : decode cL_law 1050 = .ok (.iadd, 1) := by decide +kernel
theorem dL_law_1051 : decode cL_law 1051 = .ok (.iaload, 1) := by decide +kernel
theorem dL_law_1052 : decode cL_law 1052 = .ok (.aload_n 0, 1) := by decide +kernel
theorem dL_law_1053 : decode cL_law 1053 = .ok (.iload 4, 2) := by decide +kernel
theorem dL_law_1055 : decode cL_law 1055 = .ok (.iconst 2, 1) := by decide +kernel
theorem dL_law_1056 : decode cL_law 1056 = .ok (.iadd, 1) := by decide +kernel
theorem dL_law_1057 : decode cL_law 1057 = .ok (.iaload, 1) := by decide +kernel
theorem dL_law_1058 : decode cL_law 1058 = .ok (.aload_n 3, 1) := by decide +kernel
theorem dL_law_1059 : decode cL_law 1059 = .ok (.invokestatic 131, 3) := by decide +kernel
theorem dL_law_1062 : decode cL_law 1062 = .ok (.istore 5, 2) := by decide +kernel
theorem dL_law_1064 : decode cL_law 1064 = .ok (.aload_n 2, 1) := by decide +kernel
theorem dL_law_1065 : decode cL_law 1065 = .ok (.aload_n 0, 1) := by decide +kernel
theorem dL_law_1066 : decode cL_law 1066 = .ok (.iload 4, 2) := by decide +kernel
theorem dL_law_1068 : decode cL_law 1068 = .ok (.iconst 1, 1) := by decide +kernel
theorem dL_law_1069 : decode cL_law 1069 = .ok (.iadd, 1) := by decide +kernel
theorem dL_law_1070 : decode cL_law 1070 = .ok (.iaload, 1) := by decide +kernel
theorem dL_law_1071 : decode cL_law 1071 = .ok (.aload_n 0, 1) := by decide +kernel
theorem dL_law_1072 : decode cL_law 1072 = .ok (.iload 4, 2) := by decide +kernel
theorem dL_law_1074 : decode cL_law 1074 = .ok (.iconst 2, 1) := by decide +kernel
theorem dL_law_1075 : decode cL_law 1075 = .ok (.iadd, 1) := by decide +kernel
theorem dL_law_1076 : decode cL_law 1076 = .ok (.iaload, 1) := by decide +kernel
theorem dL_law_1077 : decode cL_law 1077 = .ok (.invokevirtual 133, 3) := by decide +kernel
theorem dL_law_1080 : decode cL_law 1080 = .ok (.istore 6, 2) := by decide +kernel
theorem dL_law_1082 : decode cL_law 1082 = .ok (.aload_n 2, 1) := by decide +kernel
theorem dL_law_1083 : decode cL_law 1083 = .ok (.invokevirtual 53, 3) := by decide +kernel
theorem dL_law_1086 : decode cL_law 1086 = .ok (.iload 5, 2) := by decide +kernel
theorem dL_law_1088 : decode cL_law 1088 = .ok (.if_icmp .eq 5, 3) := by decide +kernel
theorem dL_law_1093 : decode cL_law 1093 = .ok (.iload 5, 2) := by decide +kernel
theorem dL_law_1095 : decode cL_law 1095 = .ok (.ifCond .ne 15, 3) := by decide +kernel
theorem dL_law_1098 : decode cL_law 1098 = .ok (.aload_n 3, 1) := by decide +kernel
theorem dL_law_1099 : decode cL_law 1099 = .ok (.iconst 0, 1) := by decide +kernel
theorem dL_law_1100 : decode cL_law 1100 = .ok (.laload, 1) := by decide +kernel
theorem dL_law_1101 : decode cL_law 1101 = .ok (.iload 6, 2) := by decide +kernel
theorem dL_law_1103 : decode cL_law 1103 = .ok (.i2l, 1) := by decide +kernel
theorem dL_law_1104 : decode cL_law 1104 = .ok (.lcmp, 1) := by decide +kernel
theorem dL_law_1105 : decode cL_law 1105 = .ok (.ifCond .eq 5, 3) := by decide +kernel
theorem dL_law_1110 : decode cL_law 1110 = .ok (.goto 403, 3) := by decide +kernel
theorem dL_law_1113 : decode cL_law 1113 = .ok (.aload_n 1, 1) := by decide +kernel
theorem dL_law_1114 : decode cL_law 1114 = .ok (.aload_n 0, 1) := by decide +kernel
theorem dL_law_1115 : decode cL_law 1115 = .ok (.iload 4, 2) := by decide +kernel
theorem dL_law_1117 : decode cL_law 1117 = .ok (.iconst 1, 1) := by decide +kernel
theorem dL_law_1118 : decode cL_law 1118 = .ok (.iadd, 1) := by decide +kernel
theorem dL_law_1119 : decode cL_law 1119 = .ok (.iaload, 1) := by decide +kernel
theorem dL_law_1120 : decode cL_law 1120 = .ok (.aload_n 0, 1) := by decide +kernel
theorem dL_law_1121 : decode cL_law 1121 = .ok (.iload 4, 2) := by decide +kernel
theorem dL_law_1123 : decode cL_law 1123 = .ok (.iconst 2, 1) := by decide +kernel
theorem dL_law_1124 : decode cL_law 1124 = .ok (.iadd, 1) := by decide +kernel
theorem dL_law_1125 : decode cL_law 1125 = .ok (.iaload, 1) := by decide +kernel
theorem dL_law_1126 : decode cL_law 1126 = .ok (.invokevirtual 134, 3) := by decide +kernel
theorem dL_law_1129 : decode cL_law 1129 = .ok (.aload_n 2, 1) := by decide +kernel
theorem dL_law_1130 : decode cL_law 1130 = .ok (.aload_n 0, 1) := by decide +kernel
theorem dL_law_1131 : decode cL_law 1131 = .ok (.iload 4, 2) := by decide +kernel
theorem dL_law_1133 : decode cL_law 1133 = .ok (.iconst 1, 1) := by decide +kernel
theorem dL_law_1134 : decode cL_law 1134 = .ok (.iadd, 1) := by decide +kernel
theorem dL_law_1135 : decode cL_law 1135 = .ok (.iaload, 1) := by decide +kernel
theorem dL_law_1136 : decode cL_law 1136 = .ok (.aload_n 0, 1) := by decide +kernel
theorem dL_law_1137 : decode cL_law 1137 = .ok (.iload 4, 2) := by decide +kernel
theorem dL_law_1139 : decode cL_law 1139 = .ok (.iconst 2, 1) := by decide +kernel
theorem dL_law_1140 : decode cL_law 1140 = .ok (.iadd, 1) := by decide +kernel
theorem dL_law_1141 : decode cL_law 1141 = .ok (.iaload, 1) := by decide +kernel
theorem dL_law_1142 : decode cL_law 1142 = .ok (.invokevirtual 137, 3) := by decide +kernel
theorem dL_law_1145 : decode cL_law 1145 = .ok (.if_icmp .eq 368, 3) := by decide +kernel
theorem dL_law_1150 : decode cL_law 1150 = .ok (.aload_n 1, 1) := by decide +kernel
theorem dL_law_1151 : decode cL_law 1151 = .ok (.aload_n 0, 1) := by decide +kernel
theorem dL_law_1152 : decode cL_law 1152 = .ok (.iload 4, 2) := by decide +kernel
theorem dL_law_1154 : decode cL_law 1154 = .ok (.iconst 1, 1) := by decide +kernel
theorem dL_law_1155 : decode cL_law 1155 = .ok (.iadd, 1) := by decide +kernel
theorem dL_law_1156 : decode cL_law 1156 = .ok (.iaload, 1) := by decide +kernel
theorem dL_law_1157 : decode cL_law 1157 = .ok (.invokevirtual 138, 3) := by decide +kernel
theorem dL_law_1160 : decode cL_law 1160 = .ok (.aload_n 2, 1) := by decide +kernel
theorem dL_law_1161 : decode cL_law 1161 = .ok (.aload_n 0, 1) := by decide +kernel
theorem dL_law_1162 : decode cL_law 1162 = .ok (.iload 4, 2) := by decide +kernel
theorem dL_law_1164 : decode cL_law 1164 = .ok (.iconst 1, 1) := by decide +kernel
theorem dL_law_1165 : decode cL_law 1165 = .ok (.iadd, 1) := by decide +kernel
theorem dL_law_1166 : decode cL_law 1166 = .ok (.iaload, 1) := by decide +kernel
theorem dL_law_1167 : decode cL_law 1167 = .ok (.invokevirtual 141, 3) := by decide +kernel
theorem dL_law_1170 : decode cL_law 1170 = .ok (.if_icmp .eq 343, 3) := by decide +kernel
theorem dL_law_1175 : decode cL_law 1175 = .ok (.aload_n 1, 1) := by decide +kernel
theorem dL_law_1176 : decode cL_law 1176 = .ok (.aload_n 0, 1) := by decide +kernel
theorem dL_law_1177 : decode cL_law 1177 = .ok (.iload 4, 2) := by decide +kernel
theorem dL_law_1179 : decode cL_law 1179 = .ok (.iconst 1, 1) := by decide +kernel
theorem dL_law_1180 : decode cL_law 1180 = .ok (.iadd, 1) := by decide +kernel
theorem dL_law_1181 : decode cL_law 1181 = .ok (.iaload, 1) := by decide +kernel
theorem dL_law_1182 : decode cL_law 1182 = .ok (.invokevirtual 142, 3) := by decide +kernel
theorem dL_law_1185 : decode cL_law 1185 = .ok (.aload_n 2, 1) := by decide +kernel
theorem dL_law_1186 : decode cL_law 1186 = .ok (.aload_n 0, 1) := by decide +kernel
theorem dL_law_1187 : decode cL_law 1187 = .ok (.iload 4, 2) := by decide +kernel
theorem dL_law_1189 : decode cL_law 1189 = .ok (.iconst 1, 1) := by decide +kernel
theorem dL_law_1190 : decode cL_law 1190 = .ok (.iadd, 1) := by decide +kernel
theorem dL_law_1191 : decode cL_law 1191 = .ok (.iaload, 1) := by decide +kernel
theorem dL_law_1192 : decode cL_law 1192 = .ok (.invokevirtual 145, 3) := by decide +kernel
theorem dL_law_1195 : decode cL_law 1195 = .ok (.if_icmp .eq 318, 3) := by decide +kernel
theorem lc_nearest {wad ad1 ad2 : Nat → Nat} {b L o i cells slots : Nat} {xs : Nat → Int32} {Γ : CtC} {f : Nat → Int64} {hc hm : HS} {P : Pl} {A : Ab} (hG : LG wad ad1 ad2 b L xs Γ) (hf : cells + 1 ≤ 601024 ∧ slots + 6 ≤ 7293034) (hi : i + 6 ≤ L) (q : Rel P A hc hm) (K : KK Γ ad1 ad2 b o i cells slots) : AL Γ 716 (lvL ad1 ad2 b o i) [] (WW o f ad1 ad2 (cyOf Γ) hc hm) cells slots := by
  obtain ⟨v, hc2, hm2, P2, A2, e1, e2, q2⟩ := S_nearest (F := 20000) (Nat.le_refl _) (xs (i + 1)) (xs (i + 2)) P A hc hm q
  refine z_aload_n hG.1 2 rfl dL_law_716 rfl ?_
  refine l_arg (i := i) (j := 1) hG (z0 := 1) (z4 := 0) rfl rfl (by omega) (by decide) dL_law_717 dL_law_718 dL_law_720 dL_law_721 dL_law_722 ?_
  refine l_arg (i := i) (j := 2) hG (z0 := 1) (z4 := 0) rfl rfl (by omega) (by decide) dL_law_723 dL_law_724 dL_law_726 dL_law_727 dL_law_728 ?_
  refine l_callC hG hf (As := [.int (xs (i + 1)), .int (xs (i + 2))]) (st := []) ml_X11_nearest tl_938 (by decide) (c_LC_nearest 20000 (xs (i + 1)) (xs (i + 2)) hc (v, hc2) e1) rfl (Nat.le_of_ble_eq_true rfl) dL_law_729 ?_
  refine z_aload_n hG.1 3 rfl dL_law_732 rfl ?_
  refine l_arg (i := i) (j := 1) hG (z0 := 1) (z4 := 0) rfl rfl (by omega) (by decide) dL_law_733 dL_law_734 dL_law_736 dL_law_737 dL_law_738 ?_
  refine l_arg (i := i) (j := 2) hG (z0 := 1) (z4 := 0) rfl rfl (by omega) (by decide) dL_law_739 dL_law_740 dL_law_742 dL_law_743 dL_law_744 ?_
  refine l_callM hG ⟨by omega, by omega⟩ (As := [.int (xs (i + 1)), .int (xs (i + 2))]) (st := [.int v]) ml_X12_nearest tl_1952 (by decide) (c_M_nearest 20000 (xs (i + 1)) (xs (i + 2)) hm (v, hm2) e2) rfl (Nat.le_of_ble_eq_true rfl) dL_law_745 ?_
  exact z_ic_eq hG.1 (tgt := 1513) dL_law_748 rfl (fun _ => K _ _ _ _ _ _ _ (Nat.le_succ _) (Nat.le_add_right _ _) q2) (fun z => absurd rfl z)
theorem lc_near {wad ad1 ad2 : Nat → Nat} {b L o i cells slots : Nat} {xs : Nat → Int32} {Γ : CtC} {f : Nat → Int64} {hc hm : HS} {P : Pl} {A : Ab} (hG : LG wad ad1 ad2 b L xs Γ) (hf : cells + 1 ≤ 601024 ∧ slots + 6 ≤ 7293034) (hi : i + 6 ≤ L) (q : Rel P A hc hm) (K : KK Γ ad1 ad2 b o i cells slots) : AL Γ 753 (lvL ad1 ad2 b o i) [] (WW o f ad1 ad2 (cyOf Γ) hc hm) cells slots := by
  obtain ⟨v, hc2, hm2, P2, A2, e1, e2, q2⟩ := S_near (F := 20000) (Nat.le_refl _) (xs (i + 1)) (xs (i + 2)) P A hc hm q
  refine z_aload_n hG.1 2 rfl dL_law_753 rfl ?_
  refine l_arg (i := i) (j := 1) hG (z0 := 1) (z4 := 0) rfl rfl (by omega) (by decide) dL_law_754 dL_law_755 dL_law_757 dL_law_758 dL_law_759 ?_
  refine l_arg (i := i) (j := 2) hG (z0 := 1) (z4 := 0) rfl rfl (by omega) (by decide) dL_law_760 dL_law_761 dL_law_763 dL_law_764 dL_law_765 ?_
  refine l_callC hG hf (As := [.int (xs (i + 1)), .int (xs (i + 2))]) (st := []) ml_X11_near tl_977 (by decide) (c_LC_near (xs (i + 1)) (xs (i + 2)) hc (v, hc2) e1) rfl (Nat.le_of_ble_eq_true rfl) dL_law_766 ?_
  refine z_aload_n hG.1 3 rfl dL_law_769 rfl ?_
  refine l_arg (i := i) (j := 1) hG (z0 := 1) (z4 := 0) rfl rfl (by omega) (by decide) dL_law_770 dL_law_771 dL_law_773 dL_law_774 dL_law_775 ?_
  refine l_arg (i := i) (j := 2) hG (z0 := 1) (z4 := 0) rfl rfl (by omega) (by decide) dL_law_776 dL_law_777 dL_law_779 dL_law_780 dL_law_781 ?_
  refine l_callM hG ⟨by omega, by omega⟩ (As := [.int (xs (i + 1)), .int (xs (i + 2))]) (st := [.int v]) ml_X12_near tl_1971 (by decide) (c_M_near 20000 (xs (i + 1)) (xs (i + 2)) hm (v, hm2) e2) rfl (Nat.le_of_ble_eq_true rfl) dL_law_782 ?_
  exact z_ic_eq hG.1 (tgt := 1513) dL_law_785 rfl (fun _ => K _ _ _ _ _ _ _ (Nat.le_succ _) (Nat.le_add_right _ _) q2) (fun z => absurd rfl z)
theorem lc_orders {wad ad1 ad2 : Nat → Nat} {b L o i cells slots : Nat} {xs : Nat → Int32} {Γ : CtC} {f : Nat → Int64} {hc hm : HS} {P : Pl} {A : Ab} (hG : LG wad ad1 ad2 b L xs Γ) (hf : cells + 1 ≤ 601024 ∧ slots + 6 ≤ 7293034) (hi : i + 6 ≤ L) (q : Rel P A hc hm) (K : KK Γ ad1 ad2 b o i cells slots) : AL Γ 790 (lvL ad1 ad2 b o i) [] (WW o f ad1 ad2 (cyOf Γ) hc hm) cells slots := by
  obtain ⟨v, hc2, hm2, P2, A2, e1, e2, q2⟩ := S_orders (F := 20000) (Nat.le_refl _) (xs (i + 1)) (xs (i + 2)) P A hc hm q
  refine z_aload_n hG.1 2 rfl dL_law_790 rfl ?_
  refine l_arg (i := i) (j := 1) hG (z0 := 1) (z4 := 0) rfl rfl (by omega) (by decide) dL_law_791 dL_law_792 dL_law_794 dL_law_795 dL_law_796 ?_
  refine l_arg (i := i) (j := 2) hG (z0 := 1) (z4 := 0) rfl rfl (by omega) (by decide) dL_law_797 dL_law_798 dL_law_800 dL_law_801 dL_law_802 ?_
  refine l_callC hG hf (As := [.int (xs (i + 1)), .int (xs (i + 2))]) (st := []) ml_X11_orders tl_990 (by decide) (c_LC_orders 20000 (xs (i + 1)) (xs (i + 2)) hc (v, hc2) e1) rfl (Nat.le_of_ble_eq_true rfl) dL_law_803 ?_
  refine z_aload_n hG.1 3 rfl dL_law_806 rfl ?_
  refine l_arg (i := i) (j := 1) hG (z0 := 1) (z4 := 0) rfl rfl (by omega) (by decide) dL_law_807 dL_law_808 dL_law_810 dL_law_811 dL_law_812 ?_
  refine l_arg (i := i) (j := 2) hG (z0 := 1) (z4 := 0) rfl rfl (by omega) (by decide) dL_law_813 dL_law_814 dL_law_816 dL_law_817 dL_law_818 ?_
  refine l_callM hG ⟨by omega, by omega⟩ (As := [.int (xs (i + 1)), .int (xs (i + 2))]) (st := [.int v]) ml_X12_orders tl_1979 (by decide) (c_M_orders 20000 (xs (i + 1)) (xs (i + 2)) hm (v, hm2) e2) rfl (Nat.le_of_ble_eq_true rfl) dL_law_819 ?_
  exact z_ic_eq hG.1 (tgt := 1513) dL_law_822 rfl (fun _ => K _ _ _ _ _ _ _ (Nat.le_succ _) (Nat.le_add_right _ _) q2) (fun z => absurd rfl z)
theorem lc_ways {wad ad1 ad2 : Nat → Nat} {b L o i cells slots : Nat} {xs : Nat → Int32} {Γ : CtC} {f : Nat → Int64} {hc hm : HS} {P : Pl} {A : Ab} (hG : LG wad ad1 ad2 b L xs Γ) (hf : cells + 1 ≤ 601024 ∧ slots + 6 ≤ 7293034) (hi : i + 6 ≤ L) (q : Rel P A hc hm) (K : KK Γ ad1 ad2 b o i cells slots) : AL Γ 827 (lvL ad1 ad2 b o i) [] (WW o f ad1 ad2 (cyOf Γ) hc hm) cells slots := by
  obtain ⟨v, hc2, hm2, P2, A2, e1, e2, q2⟩ := S_ways (F := 20000) (Nat.le_refl _) (xs (i + 1)) (xs (i + 2)) P A hc hm q
  refine z_aload_n hG.1 2 rfl dL_law_827 rfl ?_
  refine l_arg (i := i) (j := 1) hG (z0 := 1) (z4 := 0) rfl rfl (by omega) (by decide) dL_law_828 dL_law_829 dL_law_831 dL_law_832 dL_law_833 ?_
  refine l_arg (i := i) (j := 2) hG (z0 := 1) (z4 := 0) rfl rfl (by omega) (by decide) dL_law_834 dL_law_835 dL_law_837 dL_law_838 dL_law_839 ?_
  refine l_callC hG hf (As := [.int (xs (i + 1)), .int (xs (i + 2))]) (st := []) ml_X11_ways tl_998 (by decide) (c_LC_ways 20000 (xs (i + 1)) (xs (i + 2)) hc (v, hc2) e1) rfl (Nat.le_of_ble_eq_true rfl) dL_law_840 ?_
  refine z_aload_n hG.1 3 rfl dL_law_843 rfl ?_
  refine l_arg (i := i) (j := 1) hG (z0 := 1) (z4 := 0) rfl rfl (by omega) (by decide) dL_law_844 dL_law_845 dL_law_847 dL_law_848 dL_law_849 ?_
  refine l_arg (i := i) (j := 2) hG (z0 := 1) (z4 := 0) rfl rfl (by omega) (by decide) dL_law_850 dL_law_851 dL_law_853 dL_law_854 dL_law_855 ?_
  refine l_callM hG ⟨by omega, by omega⟩ (As := [.int (xs (i + 1)), .int (xs (i + 2))]) (st := [.int v]) ml_X12_ways tl_1983 (by decide) (c_M_ways 20000 (xs (i + 1)) (xs (i + 2)) hm (v, hm2) e2) rfl (Nat.le_of_ble_eq_true rfl) dL_law_856 ?_
  exact z_ic_eq hG.1 (tgt := 1513) dL_law_859 rfl (fun _ => K _ _ _ _ _ _ _ (Nat.le_succ _) (Nat.le_add_right _ _) q2) (fun z => absurd rfl z)
theorem dL_value_0 : decode cL_value 0 = .ok (.aload_n 3, 1) := by decide +kernel
theorem dL_value_1 : decode cL_value 1 = .ok (.iconst 0, 1) := by decide +kernel
theorem dL_value_2 : decode cL_value 2 = .ok (.aload_n 0, 1) := by decide +kernel
theorem dL_value_3 : decode cL_value 3 = .ok (.iload_n 1, 1) := by decide +kernel
theorem dL_value_4 : decode cL_value 4 = .ok (.iload_n 2, 1) := by decide +kernel
theorem dL_value_5 : decode cL_value 5 = .ok (.invokevirtual 18, 3) := by decide +kernel
theorem dL_value_8 : decode cL_value 8 = .ok (.i2l, 1) := by decide +kernel
theorem dL_value_9 : decode cL_value 9 = .ok (.lastore, 1) := by decide +kernel
theorem dL_value_10 : decode cL_value 10 = .ok (.goto 7, 3) := by decide +kernel
theorem dL_value_13 : decode cL_value 13 = .ok (.astore 4, 2) := by decide +kernel
theorem dL_value_15 : decode cL_value 15 = .ok (.iconst 1, 1) := by decide +kernel
theorem dL_value_16 : decode cL_value 16 = .ok (.ireturn, 1) := by decide +kernel
theorem dL_value_17 : decode cL_value 17 = .ok (.iconst 0, 1) := by decide +kernel
theorem dL_value_18 : decode cL_value 18 = .ok (.ireturn, 1) := by decide +kernel
theorem hd_value : HD cL_value 18 := ⟨dL_value_0, dL_value_1, dL_value_2, dL_value_3, dL_value_4, dL_value_5, dL_value_8, dL_value_9, dL_value_10, dL_value_13, dL_value_15, dL_value_16, dL_value_17, dL_value_18⟩
theorem lc_value {wad ad1 ad2 : Nat → Nat} {b L o i cells slots : Nat} {xs : Nat → Int32} {Γ : CtC} {f : Nat → Int64} {hc hm : HS} {P : Pl} {A : Ab} (hG : LG wad ad1 ad2 b L xs Γ) (hf : cells + 1 ≤ 601024 ∧ slots + 6 ≤ 7293034) (hi : i + 6 ≤ L) (q : Rel P A hc hm) (K : KK Γ ad1 ad2 b o i cells slots) : AL Γ 864 (lvL ad1 ad2 b o i) [] (WW o f ad1 ad2 (cyOf Γ) hc hm) cells slots := by
  obtain ⟨T1, T2⟩ := T_value (F := 20000) (Nat.le_refl _) (xs (i + 1)) (xs (i + 2)) P A hc hm q
  have hT : ∃ (r v : Int32) (f1 : Nat → Int64) (hc2 hm2 : HS) (P2 : Pl) (A2 : Ab), CtH ad1 wad yL_value cL_value (xs (i + 1)) (xs (i + 2)) o f hc r f1 hc2 ∧ f_M_value 20000 (xs (i + 1)) (xs (i + 2)) hm = some (v, hm2) ∧ hm2.1 0 0 = r ∧ (r = 0 → f1 0 = v.toInt64) ∧ Rel P2 A2 hc2 hm2 := by
    by_cases hq : (inb (xs (i + 1)) (P 0 5) && inb (xs (i + 2)) (P 0 3)) = true
    · obtain ⟨v, hc2, hm2, P2, A2, e1, e2, e3, q2⟩ := T1 hq
      exact ⟨nI 0, v, vp_updL f 0 v.toInt64, hc2, hm2, P2, A2, ch_ret (by decide) rfl hd_value ml_X11_value tl_1542 (by decide) (c_LC_value 20000 (xs (i + 1)) (xs (i + 2)) hc (v, hc2) e1), e2, e3, fun _ => if_pos rfl, q2⟩
    · have hq : (inb (xs (i + 1)) (P 0 5) && inb (xs (i + 2)) (P 0 3)) = false := Bool.eq_false_iff.mpr hq
      obtain ⟨v, hm2, e2, e3, q2⟩ := T2 hq
      exact ⟨nI 1, v, f, hc, hm2, P, A, ch_thr (by decide) rfl hd_value ml_X11_value tl_1542 tl_1455 (TT_value q _ _ hq), e2, e3, fun z => absurd z (by decide), q2⟩
  obtain ⟨r, v, f1, hc2, hm2, P2, A2, e1, e2, e3, e4, q2⟩ := hT
  refine z_aload_n hG.1 2 rfl dL_law_864 rfl ?_
  refine l_arg (i := i) (j := 1) hG (z0 := 1) (z4 := 0) rfl rfl (by omega) (by decide) dL_law_865 dL_law_866 dL_law_868 dL_law_869 dL_law_870 ?_
  refine l_arg (i := i) (j := 2) hG (z0 := 1) (z4 := 0) rfl rfl (by omega) (by decide) dL_law_871 dL_law_872 dL_law_874 dL_law_875 dL_law_876 ?_
  refine z_aload_n hG.1 4 rfl dL_law_877 rfl ?_
  refine l_callH hG hf tl_1539 tl_1540 tl_120 tl_1541 ⟨by decide +kernel, by decide +kernel, by decide +kernel⟩ e1 dL_law_878 ?_
  refine z_istore (lv' := [(5, .int r), (4, .int (nI i)), (0, .ref b), (1, .ref (ad1 0)), (2, .ref (ad2 0)), (3, .ref o)]) hG.1 dL_law_881 (by decide) rfl ?_
  refine z_aload_n hG.1 4 rfl dL_law_883 rfl ?_
  refine l_arg (i := i) (j := 1) hG (z0 := 2) (z4 := 1) rfl rfl (by omega) (by decide) dL_law_884 dL_law_885 dL_law_887 dL_law_888 dL_law_889 ?_
  refine l_arg (i := i) (j := 2) hG (z0 := 2) (z4 := 1) rfl rfl (by omega) (by decide) dL_law_890 dL_law_891 dL_law_893 dL_law_894 dL_law_895 ?_
  refine l_callM hG hf (As := [.int (xs (i + 1)), .int (xs (i + 2))]) (st := []) ml_X12_value tl_1987 (by decide) (c_M_value 20000 (xs (i + 1)) (xs (i + 2)) hm (v, hm2) e2) rfl (Nat.le_of_ble_eq_true rfl) dL_law_896 ?_
  refine z_istore (lv' := [(6, .int v), (5, .int r), (4, .int (nI i)), (0, .ref b), (1, .ref (ad1 0)), (2, .ref (ad2 0)), (3, .ref o)]) hG.1 dL_law_899 (by decide) rfl ?_
  refine z_aload_n hG.1 5 rfl dL_law_901 rfl ?_
  refine l_callM hG hf (As := []) (st := []) ml_X12_thrown tl_1556 (by decide) (c_M_thrown hm2 (hm2.1 0 0, hm2) (thrown_e hm2)) rfl (Nat.le_of_ble_eq_true rfl) dL_law_902 ?_
  refine z_iload hG.1 1 rfl dL_law_905 ?_
  refine z_ic_eq hG.1 (tgt := 912) dL_law_907 rfl (fun _ => ?_) (fun z => absurd e3 z)
  refine z_iload hG.1 1 rfl dL_law_912 ?_
  have fin : AL Γ 929 [(6, .int v), (5, .int r), (4, .int (nI i)), (0, .ref b), (1, .ref (ad1 0)), (2, .ref (ad2 0)), (3, .ref o)] [] (WW o f1 ad1 ad2 (cyOf Γ) hc2 hm2) (cells + 1) (slots + 6) := z_goto hG.1 (tgt := 1513) dL_law_929 rfl (l_sub [2, 3, 4, 5, 6] rfl (K _ _ _ _ _ _ _ (Nat.le_refl _) (Nat.le_refl _) q2))
  refine z_if_ne hG.1 (tgt := 929) dL_law_914 rfl (fun _ => fin) (fun z => ?_)
  refine z_aload_n hG.1 6 rfl dL_law_917 rfl ?_
  refine z_iconst (v := nI 0) hG.1 dL_law_918 (by decide) ?_
  refine z_lald hG.1 0 2 WW_z rfl (inb_in (by decide)) dL_law_919 ?_
  refine z_iload hG.1 0 rfl dL_law_920 ?_
  refine z_i2l hG.1 dL_law_922 ?_
  refine z_lcmp hG.1 dL_law_923 ?_
  have ez : f1 (nI 0).toNatClampNeg = v.toInt64 := e4 z
  rw [ez, cmp_e]
  exact z_if_eq hG.1 (tgt := 929) dL_law_924 rfl (fun _ => fin) (fun z => absurd rfl z)
theorem lc_match {wad ad1 ad2 : Nat → Nat} {b L o i cells slots : Nat} {xs : Nat → Int32} {Γ : CtC} {f : Nat → Int64} {hc hm : HS} {P : Pl} {A : Ab} (hG : LG wad ad1 ad2 b L xs Γ) (hf : cells + 1 ≤ 601024 ∧ slots + 6 ≤ 7293034) (hi : i + 6 ≤ L) (q : Rel P A hc hm) (K : KK Γ ad1 ad2 b o i cells slots) : AL Γ 932 (lvL ad1 ad2 b o i) [] (WW o f ad1 ad2 (cyOf Γ) hc hm) cells slots := by
  obtain ⟨v, hc2, hm2, P2, A2, e1, e2, q2⟩ := S_match (F := 20000) (Nat.le_refl _)  P A hc hm q
  refine z_aload_n hG.1 2 rfl dL_law_932 rfl ?_
  refine l_callC hG hf (As := []) (st := []) ml_X11_match tl_1006 (by decide) (c_LC_match 20000 hc (v, hc2) e1) rfl (Nat.le_of_ble_eq_true rfl) dL_law_933 ?_
  refine z_aload_n hG.1 3 rfl dL_law_936 rfl ?_
  refine l_callM hG ⟨by omega, by omega⟩ (As := []) (st := [.int v]) ml_X12_match tl_1995 (by decide) (c_M_match 20000 hm (v, hm2) e2) rfl (Nat.le_of_ble_eq_true rfl) dL_law_937 ?_
  exact z_ic_eq hG.1 (tgt := 1513) dL_law_940 rfl (fun _ => K _ _ _ _ _ _ _ (Nat.le_succ _) (Nat.le_add_right _ _) q2) (fun z => absurd rfl z)
theorem lc_matched {wad ad1 ad2 : Nat → Nat} {b L o i cells slots : Nat} {xs : Nat → Int32} {Γ : CtC} {f : Nat → Int64} {hc hm : HS} {P : Pl} {A : Ab} (hG : LG wad ad1 ad2 b L xs Γ) (hf : cells + 1 ≤ 601024 ∧ slots + 6 ≤ 7293034) (hi : i + 6 ≤ L) (q : Rel P A hc hm) (K : KK Γ ad1 ad2 b o i cells slots) : AL Γ 945 (lvL ad1 ad2 b o i) [] (WW o f ad1 ad2 (cyOf Γ) hc hm) cells slots := by
  obtain ⟨v, hc2, hm2, P2, A2, e1, e2, q2⟩ := S_matched (xs (i + 1)) P A hc hm q
  refine z_aload_n hG.1 2 rfl dL_law_945 rfl ?_
  refine l_arg (i := i) (j := 1) hG (z0 := 1) (z4 := 0) rfl rfl (by omega) (by decide) dL_law_946 dL_law_947 dL_law_949 dL_law_950 dL_law_951 ?_
  refine l_callC hG hf (As := [.int (xs (i + 1))]) (st := []) ml_X11_matched tl_1041 (by decide) (c_LC_matched (xs (i + 1)) hc (v, hc2) e1) rfl (Nat.le_of_ble_eq_true rfl) dL_law_952 ?_
  refine z_aload_n hG.1 3 rfl dL_law_955 rfl ?_
  refine l_arg (i := i) (j := 1) hG (z0 := 1) (z4 := 0) rfl rfl (by omega) (by decide) dL_law_956 dL_law_957 dL_law_959 dL_law_960 dL_law_961 ?_
  refine l_callM hG ⟨by omega, by omega⟩ (As := [.int (xs (i + 1))]) (st := [.int v]) ml_X12_matched tl_2008 (by decide) (c_M_matched (xs (i + 1)) hm (v, hm2) e2) rfl (Nat.le_of_ble_eq_true rfl) dL_law_962 ?_
  exact z_ic_eq hG.1 (tgt := 1513) dL_law_965 rfl (fun _ => K _ _ _ _ _ _ _ (Nat.le_succ _) (Nat.le_add_right _ _) q2) (fun z => absurd rfl z)
theorem lc_rests {wad ad1 ad2 : Nat → Nat} {b L o i cells slots : Nat} {xs : Nat → Int32} {Γ : CtC} {f : Nat → Int64} {hc hm : HS} {P : Pl} {A : Ab} (hG : LG wad ad1 ad2 b L xs Γ) (hf : cells + 1 ≤ 601024 ∧ slots + 6 ≤ 7293034) (hi : i + 6 ≤ L) (q : Rel P A hc hm) (K : KK Γ ad1 ad2 b o i cells slots) : AL Γ 970 (lvL ad1 ad2 b o i) [] (WW o f ad1 ad2 (cyOf Γ) hc hm) cells slots := by
  obtain ⟨v, hc2, hm2, P2, A2, e1, e2, q2⟩ := S_rests (F := 20000) (Nat.le_refl _) (xs (i + 1)) P A hc hm q
  refine z_aload_n hG.1 2 rfl dL_law_970 rfl ?_
  refine l_arg (i := i) (j := 1) hG (z0 := 1) (z4 := 0) rfl rfl (by omega) (by decide) dL_law_971 dL_law_972 dL_law_974 dL_law_975 dL_law_976 ?_
  refine l_callC hG hf (As := [.int (xs (i + 1))]) (st := []) ml_X11_rests tl_1049 (by decide) (c_LC_rests 20000 (xs (i + 1)) hc (v, hc2) e1) rfl (Nat.le_of_ble_eq_true rfl) dL_law_977 ?_
  refine z_aload_n hG.1 3 rfl dL_law_980 rfl ?_
  refine l_arg (i := i) (j := 1) hG (z0 := 1) (z4 := 0) rfl rfl (by omega) (by decide) dL_law_981 dL_law_982 dL_law_984 dL_law_985 dL_law_986 ?_
  refine l_callM hG ⟨by omega, by omega⟩ (As := [.int (xs (i + 1))]) (st := [.int v]) ml_X12_rests tl_2012 (by decide) (c_M_rests 20000 (xs (i + 1)) hm (v, hm2) e2) rfl (Nat.le_of_ble_eq_true rfl) dL_law_987 ?_
  exact z_ic_eq hG.1 (tgt := 1513) dL_law_990 rfl (fun _ => K _ _ _ _ _ _ _ (Nat.le_succ _) (Nat.le_add_right _ _) q2) (fun z => absurd rfl z)
theorem lc_parts {wad ad1 ad2 : Nat → Nat} {b L o i cells slots : Nat} {xs : Nat → Int32} {Γ : CtC} {f : Nat → Int64} {hc hm : HS} {P : Pl} {A : Ab} (hG : LG wad ad1 ad2 b L xs Γ) (hf : cells + 1 ≤ 601024 ∧ slots + 6 ≤ 7293034) (hi : i + 6 ≤ L) (q : Rel P A hc hm) (K : KK Γ ad1 ad2 b o i cells slots) : AL Γ 995 (lvL ad1 ad2 b o i) [] (WW o f ad1 ad2 (cyOf Γ) hc hm) cells slots := by
  obtain ⟨v, hc2, hm2, P2, A2, e1, e2, q2⟩ := S_parts (F := 20000) (Nat.le_refl _) (xs (i + 1)) P A hc hm q
  refine z_aload_n hG.1 2 rfl dL_law_995 rfl ?_
  refine l_arg (i := i) (j := 1) hG (z0 := 1) (z4 := 0) rfl rfl (by omega) (by decide) dL_law_996 dL_law_997 dL_law_999 dL_law_1000 dL_law_1001 ?_
  refine l_callC hG hf (As := [.int (xs (i + 1))]) (st := []) ml_X11_parts tl_1070 (by decide) (c_LC_parts 20000 (xs (i + 1)) hc (v, hc2) e1) rfl (Nat.le_of_ble_eq_true rfl) dL_law_1002 ?_
  refine z_aload_n hG.1 3 rfl dL_law_1005 rfl ?_
  refine l_arg (i := i) (j := 1) hG (z0 := 1) (z4 := 0) rfl rfl (by omega) (by decide) dL_law_1006 dL_law_1007 dL_law_1009 dL_law_1010 dL_law_1011 ?_
  refine l_callM hG ⟨by omega, by omega⟩ (As := [.int (xs (i + 1))]) (st := [.int v]) ml_X12_parts tl_2028 (by decide) (c_M_parts 20000 (xs (i + 1)) hm (v, hm2) e2) rfl (Nat.le_of_ble_eq_true rfl) dL_law_1012 ?_
  exact z_ic_eq hG.1 (tgt := 1513) dL_law_1015 rfl (fun _ => K _ _ _ _ _ _ _ (Nat.le_succ _) (Nat.le_add_right _ _) q2) (fun z => absurd rfl z)
theorem lc_plot {wad ad1 ad2 : Nat → Nat} {b L o i cells slots : Nat} {xs : Nat → Int32} {Γ : CtC} {f : Nat → Int64} {hc hm : HS} {P : Pl} {A : Ab} (hG : LG wad ad1 ad2 b L xs Γ) (hf : cells + 1 ≤ 601024 ∧ slots + 6 ≤ 7293034) (hi : i + 6 ≤ L) (q : Rel P A hc hm) (K : KK Γ ad1 ad2 b o i cells slots) : AL Γ 1020 (lvL ad1 ad2 b o i) [] (WW o f ad1 ad2 (cyOf Γ) hc hm) cells slots := by
  obtain ⟨v, hc2, hm2, P2, A2, e1, e2, q2⟩ := S_plot (F := 20000) (Nat.le_refl _) (xs (i + 1)) P A hc hm q
  refine z_aload_n hG.1 2 rfl dL_law_1020 rfl ?_
  refine l_arg (i := i) (j := 1) hG (z0 := 1) (z4 := 0) rfl rfl (by omega) (by decide) dL_law_1021 dL_law_1022 dL_law_1024 dL_law_1025 dL_law_1026 ?_
  refine l_callC hG hf (As := [.int (xs (i + 1))]) (st := []) ml_X11_plot tl_1092 (by decide) (c_LC_plot 20000 (xs (i + 1)) hc (v, hc2) e1) rfl (Nat.le_of_ble_eq_true rfl) dL_law_1027 ?_
  refine z_aload_n hG.1 3 rfl dL_law_1030 rfl ?_
  refine l_arg (i := i) (j := 1) hG (z0 := 1) (z4 := 0) rfl rfl (by omega) (by decide) dL_law_1031 dL_law_1032 dL_law_1034 dL_law_1035 dL_law_1036 ?_
  refine l_callM hG ⟨by omega, by omega⟩ (As := [.int (xs (i + 1))]) (st := [.int v]) ml_X12_plot tl_2036 (by decide) (c_M_plot 20000 (xs (i + 1)) hm (v, hm2) e2) rfl (Nat.le_of_ble_eq_true rfl) dL_law_1037 ?_
  exact z_ic_eq hG.1 (tgt := 1513) dL_law_1040 rfl (fun _ => K _ _ _ _ _ _ _ (Nat.le_succ _) (Nat.le_add_right _ _) q2) (fun z => absurd rfl z)
theorem dL_fair_0 : decode cL_fair 0 = .ok (.aload_n 3, 1) := by decide +kernel
theorem dL_fair_1 : decode cL_fair 1 = .ok (.iconst 0, 1) := by decide +kernel
theorem dL_fair_2 : decode cL_fair 2 = .ok (.aload_n 0, 1) := by decide +kernel
theorem dL_fair_3 : decode cL_fair 3 = .ok (.iload_n 1, 1) := by decide +kernel
theorem dL_fair_4 : decode cL_fair 4 = .ok (.iload_n 2, 1) := by decide +kernel
theorem dL_fair_5 : decode cL_fair 5 = .ok (.invokevirtual 21, 3) := by decide +kernel
theorem dL_fair_8 : decode cL_fair 8 = .ok (.i2l, 1) := by decide +kernel
theorem dL_fair_9 : decode cL_fair 9 = .ok (.lastore, 1) := by decide +kernel
theorem dL_fair_10 : decode cL_fair 10 = .ok (.goto 7, 3) := by decide +kernel
theorem dL_fair_13 : decode cL_fair 13 = .ok (.astore 4, 2) := by decide +kernel
theorem dL_fair_15 : decode cL_fair 15 = .ok (.iconst 1, 1) := by decide +kernel
theorem dL_fair_16 : decode cL_fair 16 = .ok (.ireturn, 1) := by decide +kernel
theorem dL_fair_17 : decode cL_fair 17 = .ok (.iconst 0, 1) := by decide +kernel
theorem dL_fair_18 : decode cL_fair 18 = .ok (.ireturn, 1) := by decide +kernel
theorem hd_fair : HD cL_fair 21 := ⟨dL_fair_0, dL_fair_1, dL_fair_2, dL_fair_3, dL_fair_4, dL_fair_5, dL_fair_8, dL_fair_9, dL_fair_10, dL_fair_13, dL_fair_15, dL_fair_16, dL_fair_17, dL_fair_18⟩
theorem lc_fair {wad ad1 ad2 : Nat → Nat} {b L o i cells slots : Nat} {xs : Nat → Int32} {Γ : CtC} {f : Nat → Int64} {hc hm : HS} {P : Pl} {A : Ab} (hG : LG wad ad1 ad2 b L xs Γ) (hf : cells + 1 ≤ 601024 ∧ slots + 6 ≤ 7293034) (hi : i + 6 ≤ L) (q : Rel P A hc hm) (K : KK Γ ad1 ad2 b o i cells slots) : AL Γ 1045 (lvL ad1 ad2 b o i) [] (WW o f ad1 ad2 (cyOf Γ) hc hm) cells slots := by
  obtain ⟨T1, T2⟩ := T_fair (F := 20000) (Nat.le_refl _) (xs (i + 1)) (xs (i + 2)) P A hc hm q
  have hT : ∃ (r v : Int32) (f1 : Nat → Int64) (hc2 hm2 : HS) (P2 : Pl) (A2 : Ab), CtH ad1 wad yL_fair cL_fair (xs (i + 1)) (xs (i + 2)) o f hc r f1 hc2 ∧ f_M_fair 20000 (xs (i + 1)) (xs (i + 2)) hm = some (v, hm2) ∧ hm2.1 0 0 = r ∧ (r = 0 → f1 0 = v.toInt64) ∧ Rel P2 A2 hc2 hm2 := by
    by_cases hq : (inb (xs (i + 1)) (P 0 3) && (inb (xs (i + 2)) 2 && decide (fo P A (xs (i + 1)).toNatClampNeg 0 ≠ 0))) = true
    · obtain ⟨v, hc2, hm2, P2, A2, e1, e2, e3, q2⟩ := T1 hq
      exact ⟨nI 0, v, vp_updL f 0 v.toInt64, hc2, hm2, P2, A2, ch_ret (by decide) rfl hd_fair ml_X11_fair tl_1551 (by decide) (c_LC_fair 20000 (xs (i + 1)) (xs (i + 2)) hc (v, hc2) e1), e2, e3, fun _ => if_pos rfl, q2⟩
    · have hq : (inb (xs (i + 1)) (P 0 3) && (inb (xs (i + 2)) 2 && decide (fo P A (xs (i + 1)).toNatClampNeg 0 ≠ 0))) = false := Bool.eq_false_iff.mpr hq
      obtain ⟨v, hm2, e2, e3, q2⟩ := T2 hq
      exact ⟨nI 1, v, f, hc, hm2, P, A, ch_thr (by decide) rfl hd_fair ml_X11_fair tl_1551 tl_1455 (TT_fair q _ _ hq), e2, e3, fun z => absurd z (by decide), q2⟩
  obtain ⟨r, v, f1, hc2, hm2, P2, A2, e1, e2, e3, e4, q2⟩ := hT
  refine z_aload_n hG.1 2 rfl dL_law_1045 rfl ?_
  refine l_arg (i := i) (j := 1) hG (z0 := 1) (z4 := 0) rfl rfl (by omega) (by decide) dL_law_1046 dL_law_1047 dL_law_1049 dL_law_1050 dL_law_1051 ?_
  refine l_arg (i := i) (j := 2) hG (z0 := 1) (z4 := 0) rfl rfl (by omega) (by decide) dL_law_1052 dL_law_1053 dL_law_1055 dL_law_1056 dL_law_1057 ?_
  refine z_aload_n hG.1 4 rfl dL_law_1058 rfl ?_
  refine l_callH hG hf tl_1548 tl_1549 tl_120 tl_1550 ⟨by decide +kernel, by decide +kernel, by decide +kernel⟩ e1 dL_law_1059 ?_
  refine z_istore (lv' := [(5, .int r), (4, .int (nI i)), (0, .ref b), (1, .ref (ad1 0)), (2, .ref (ad2 0)), (3, .ref o)]) hG.1 dL_law_1062 (by decide) rfl ?_
  refine z_aload_n hG.1 4 rfl dL_law_1064 rfl ?_
  refine l_arg (i := i) (j := 1) hG (z0 := 2) (z4 := 1) rfl rfl (by omega) (by decide) dL_law_1065 dL_law_1066 dL_law_1068 dL_law_1069 dL_law_1070 ?_
  refine l_arg (i := i) (j := 2) hG (z0 := 2) (z4 := 1) rfl rfl (by omega) (by decide) dL_law_1071 dL_law_1072 dL_law_1074 dL_law_1075 dL_law_1076 ?_
  refine l_callM hG hf (As := [.int (xs (i + 1)), .int (xs (i + 2))]) (st := []) ml_X12_fair tl_2040 (by decide) (c_M_fair 20000 (xs (i + 1)) (xs (i + 2)) hm (v, hm2) e2) rfl (Nat.le_of_ble_eq_true rfl) dL_law_1077 ?_
  refine z_istore (lv' := [(6, .int v), (5, .int r), (4, .int (nI i)), (0, .ref b), (1, .ref (ad1 0)), (2, .ref (ad2 0)), (3, .ref o)]) hG.1 dL_law_1080 (by decide) rfl ?_
  refine z_aload_n hG.1 5 rfl dL_law_1082 rfl ?_
  refine l_callM hG hf (As := []) (st := []) ml_X12_thrown tl_1556 (by decide) (c_M_thrown hm2 (hm2.1 0 0, hm2) (thrown_e hm2)) rfl (Nat.le_of_ble_eq_true rfl) dL_law_1083 ?_
  refine z_iload hG.1 1 rfl dL_law_1086 ?_
  refine z_ic_eq hG.1 (tgt := 1093) dL_law_1088 rfl (fun _ => ?_) (fun z => absurd e3 z)
  refine z_iload hG.1 1 rfl dL_law_1093 ?_
  have fin : AL Γ 1110 [(6, .int v), (5, .int r), (4, .int (nI i)), (0, .ref b), (1, .ref (ad1 0)), (2, .ref (ad2 0)), (3, .ref o)] [] (WW o f1 ad1 ad2 (cyOf Γ) hc2 hm2) (cells + 1) (slots + 6) := z_goto hG.1 (tgt := 1513) dL_law_1110 rfl (l_sub [2, 3, 4, 5, 6] rfl (K _ _ _ _ _ _ _ (Nat.le_refl _) (Nat.le_refl _) q2))
  refine z_if_ne hG.1 (tgt := 1110) dL_law_1095 rfl (fun _ => fin) (fun z => ?_)
  refine z_aload_n hG.1 6 rfl dL_law_1098 rfl ?_
  refine z_iconst (v := nI 0) hG.1 dL_law_1099 (by decide) ?_
  refine z_lald hG.1 0 2 WW_z rfl (inb_in (by decide)) dL_law_1100 ?_
  refine z_iload hG.1 0 rfl dL_law_1101 ?_
  refine z_i2l hG.1 dL_law_1103 ?_
  refine z_lcmp hG.1 dL_law_1104 ?_
  have ez : f1 (nI 0).toNatClampNeg = v.toInt64 := e4 z
  rw [ez, cmp_e]
  exact z_if_eq hG.1 (tgt := 1110) dL_law_1105 rfl (fun _ => fin) (fun z => absurd rfl z)
theorem lc_school {wad ad1 ad2 : Nat → Nat} {b L o i cells slots : Nat} {xs : Nat → Int32} {Γ : CtC} {f : Nat → Int64} {hc hm : HS} {P : Pl} {A : Ab} (hG : LG wad ad1 ad2 b L xs Γ) (hf : cells + 1 ≤ 601024 ∧ slots + 6 ≤ 7293034) (hi : i + 6 ≤ L) (q : Rel P A hc hm) (K : KK Γ ad1 ad2 b o i cells slots) : AL Γ 1113 (lvL ad1 ad2 b o i) [] (WW o f ad1 ad2 (cyOf Γ) hc hm) cells slots := by
  obtain ⟨v, hc2, hm2, P2, A2, e1, e2, q2⟩ := S_school (F := 20000) (Nat.le_refl _) (xs (i + 1)) (xs (i + 2)) P A hc hm q
  refine z_aload_n hG.1 2 rfl dL_law_1113 rfl ?_
  refine l_arg (i := i) (j := 1) hG (z0 := 1) (z4 := 0) rfl rfl (by omega) (by decide) dL_law_1114 dL_law_1115 dL_law_1117 dL_law_1118 dL_law_1119 ?_
  refine l_arg (i := i) (j := 2) hG (z0 := 1) (z4 := 0) rfl rfl (by omega) (by decide) dL_law_1120 dL_law_1121 dL_law_1123 dL_law_1124 dL_law_1125 ?_
  refine l_callC hG hf (As := [.int (xs (i + 1)), .int (xs (i + 2))]) (st := []) ml_X11_school tl_1104 (by decide) (c_LC_school 20000 (xs (i + 1)) (xs (i + 2)) hc (v, hc2) e1) rfl (Nat.le_of_ble_eq_true rfl) dL_law_1126 ?_
  refine z_aload_n hG.1 3 rfl dL_law_1129 rfl ?_
  refine l_arg (i := i) (j := 1) hG (z0 := 1) (z4 := 0) rfl rfl (by omega) (by decide) dL_law_1130 dL_law_1131 dL_law_1133 dL_law_1134 dL_law_1135 ?_
  refine l_arg (i := i) (j := 2) hG (z0 := 1) (z4 := 0) rfl rfl (by omega) (by decide) dL_law_1136 dL_law_1137 dL_law_1139 dL_law_1140 dL_law_1141 ?_
  refine l_callM hG ⟨by omega, by omega⟩ (As := [.int (xs (i + 1)), .int (xs (i + 2))]) (st := [.int v]) ml_X12_school tl_2044 (by decide) (c_M_school 20000 (xs (i + 1)) (xs (i + 2)) hm (v, hm2) e2) rfl (Nat.le_of_ble_eq_true rfl) dL_law_1142 ?_
  exact z_ic_eq hG.1 (tgt := 1513) dL_law_1145 rfl (fun _ => K _ _ _ _ _ _ _ (Nat.le_succ _) (Nat.le_add_right _ _) q2) (fun z => absurd rfl z)
theorem lc_best {wad ad1 ad2 : Nat → Nat} {b L o i cells slots : Nat} {xs : Nat → Int32} {Γ : CtC} {f : Nat → Int64} {hc hm : HS} {P : Pl} {A : Ab} (hG : LG wad ad1 ad2 b L xs Γ) (hf : cells + 1 ≤ 601024 ∧ slots + 6 ≤ 7293034) (hi : i + 6 ≤ L) (q : Rel P A hc hm) (K : KK Γ ad1 ad2 b o i cells slots) : AL Γ 1150 (lvL ad1 ad2 b o i) [] (WW o f ad1 ad2 (cyOf Γ) hc hm) cells slots := by
  obtain ⟨v, hc2, hm2, P2, A2, e1, e2, q2⟩ := S_best (F := 20000) (Nat.le_refl _) (xs (i + 1)) P A hc hm q
  refine z_aload_n hG.1 2 rfl dL_law_1150 rfl ?_
  refine l_arg (i := i) (j := 1) hG (z0 := 1) (z4 := 0) rfl rfl (by omega) (by decide) dL_law_1151 dL_law_1152 dL_law_1154 dL_law_1155 dL_law_1156 ?_
  refine l_callC hG hf (As := [.int (xs (i + 1))]) (st := []) ml_X11_best tl_1157 (by decide) (c_LC_best 20000 (xs (i + 1)) hc (v, hc2) e1) rfl (Nat.le_of_ble_eq_true rfl) dL_law_1157 ?_
  refine z_aload_n hG.1 3 rfl dL_law_1160 rfl ?_
  refine l_arg (i := i) (j := 1) hG (z0 := 1) (z4 := 0) rfl rfl (by omega) (by decide) dL_law_1161 dL_law_1162 dL_law_1164 dL_law_1165 dL_law_1166 ?_
  refine l_callM hG ⟨by omega, by omega⟩ (As := [.int (xs (i + 1))]) (st := [.int v]) ml_X12_best tl_2064 (by decide) (c_M_best 20000 (xs (i + 1)) hm (v, hm2) e2) rfl (Nat.le_of_ble_eq_true rfl) dL_law_1167 ?_
  exact z_ic_eq hG.1 (tgt := 1513) dL_law_1170 rfl (fun _ => K _ _ _ _ _ _ _ (Nat.le_succ _) (Nat.le_add_right _ _) q2) (fun z => absurd rfl z)
theorem lc_flags {wad ad1 ad2 : Nat → Nat} {b L o i cells slots : Nat} {xs : Nat → Int32} {Γ : CtC} {f : Nat → Int64} {hc hm : HS} {P : Pl} {A : Ab} (hG : LG wad ad1 ad2 b L xs Γ) (hf : cells + 1 ≤ 601024 ∧ slots + 6 ≤ 7293034) (hi : i + 6 ≤ L) (q : Rel P A hc hm) (K : KK Γ ad1 ad2 b o i cells slots) : AL Γ 1175 (lvL ad1 ad2 b o i) [] (WW o f ad1 ad2 (cyOf Γ) hc hm) cells slots := by
  obtain ⟨v, hc2, hm2, P2, A2, e1, e2, q2⟩ := S_flags (F := 20000) (Nat.le_refl _) (xs (i + 1)) P A hc hm q
  refine z_aload_n hG.1 2 rfl dL_law_1175 rfl ?_
  refine l_arg (i := i) (j := 1) hG (z0 := 1) (z4 := 0) rfl rfl (by omega) (by decide) dL_law_1176 dL_law_1177 dL_law_1179 dL_law_1180 dL_law_1181 ?_
  refine l_callC hG hf (As := [.int (xs (i + 1))]) (st := []) ml_X11_flags tl_1161 (by decide) (c_LC_flags 20000 (xs (i + 1)) hc (v, hc2) e1) rfl (Nat.le_of_ble_eq_true rfl) dL_law_1182 ?_
  refine z_aload_n hG.1 3 rfl dL_law_1185 rfl ?_
  refine l_arg (i := i) (j := 1) hG (z0 := 1) (z4 := 0) rfl rfl (by omega) (by decide) dL_law_1186 dL_law_1187 dL_law_1189 dL_law_1190 dL_law_1191 ?_
  refine l_callM hG ⟨by omega, by omega⟩ (As := [.int (xs (i + 1))]) (st := [.int v]) ml_X12_flags tl_2068 (by decide) (c_M_flags 20000 (xs (i + 1)) hm (v, hm2) e2) rfl (Nat.le_of_ble_eq_true rfl) dL_law_1192 ?_
  exact z_ic_eq hG.1 (tgt := 1513) dL_law_1195 rfl (fun _ => K _ _ _ _ _ _ _ (Nat.le_succ _) (Nat.le_add_right _ _) q2) (fun z => absurd rfl z)
