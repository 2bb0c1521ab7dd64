/** For each promise of the document: ordinary calls, the edges that it names, and wrong ones, worked out by hand. */
public final class PromisesTest {
    private static final int MOTE = 0, UNCLE = 1, SPARK = 2, SHOE = 3, SOOT = 4, CINDER = 5;
    private static final long NO = -4611686018427387904L;
    private static final int MAX = Integer.MAX_VALUE, MIN = Integer.MIN_VALUE;
    private static int wrong = 0;
    private static int calls = 0;

    private static void due(String call, long got, long want) {
        calls++;
        if (got != want) {
            wrong++;
            System.out.println(call + " answered " + got + ", due is " + want);
        }
    }

    /** Objects are good for 512 calls, so each promise takes new ones. */
    private static KinInTheHeap fresh() {
        return new KinInTheHeap();
    }

    private static int read(KinInTheHeap x, String s) {
        for (int i = 0; i < s.length(); i++) {
            x.feed(s.charAt(i));
        }
        return x.text();
    }

    private static void rule(KinInTheHeap x, String s) {
        int text = read(x, s);
        if (text < 0 || x.force(text) < 0) {
            due("rule " + s, text, 1);
        }
    }

    private static void fill(KinInTheHeap x, int sheet, int sort, int... items) {
        due("sheet", x.sheet(sheet, sort, items.length), 1);
        for (int i = 0; i < items.length; i++) {
            due("cell", x.cell(sheet, i, items[i]), 1);
        }
    }

    private static void promise1() {
        KinInTheHeap x = fresh();
        int[] counts = {0, 0, 0, 1, 0, 0};
        for (int i = 0; i < counts.length; i++) {
            due("1 count " + i, x.count(i), counts[i]);
        }
        due("1 force", x.told(0, 1), 3);
        due("1 cracks", x.where(1), 0);
        due("1 dust", x.where(0), 0);
        due("1 image", x.back(), -3);
        due("1 sheets", x.cell(0, 0, 0), -11);
        due("1 sheets", x.cell(3, 0, 0), -11);
        due("1 NONE", KinInTheHeap.NONE, -1);
        due("1 BAD", KinInTheHeap.BAD, -2);
        due("1 STATE", KinInTheHeap.STATE, -3);
        due("1 FULL", KinInTheHeap.FULL, -4);
        due("1 NO", KinInTheHeap.NO, NO);
    }

    private static void promise2() {
        KinInTheHeap x = fresh();
        x.dust(MOTE, 4, 0);
        due("2 week", x.set(0, MIN, 999), 0);
        due("2 week", x.set(0, MAX, 0), 999);
        due("2 force", x.set(1, -7, 9), 3);
        due("2 force", x.set(1, 77, 0), 9);
        due("2 crack", x.set(2, 35, 1), 0);
        due("2 crack", x.set(2, 35, 1), 1);
        due("2 crack", x.set(2, 35, 0), 1);
        due("2 crack", x.set(2, 0, 0), 0);
        due("2 a crack under one", x.set(2, 0, 1), 0);
        due("2 number", x.set(3, 0, 9), 4);
        due("2 number", x.set(3, 0, 0), 9);
        due("2 where", x.set(4, 0, 35), 0);
        due("2 where", x.set(4, 0, -1), 35);
        due("2 where", x.set(4, 0, 7), -1);
        int[][] none = {{-1, 0, 0}, {5, 0, 0}, {MIN, 0, 0}, {0, 0, -1}, {0, 0, 1000}, {1, 0, -1}, {1, 0, 10}, {2, -1, 0},
            {2, 36, 0}, {2, 0, -1}, {2, 0, 2}, {3, -1, 0}, {3, 1, 0}, {3, 0, -1}, {3, 0, 10}, {4, 1, 0}, {4, -1, 0},
            {4, 0, -2}, {4, 0, 36}, {4, MAX, 0}};
        for (int[] c : none) {
            due("2 none such " + c[0] + " " + c[1] + " " + c[2], x.set(c[0], c[1], c[2]), -1000);
        }
        due("2 unchanged", x.told(0, 0), 0);
        due("2 unchanged", x.told(0, 1), 0);
        due("2 unchanged", x.told(0, 3), 0);
        due("2 unchanged", x.told(0, 4), 7);
        due("2 unchanged", x.where(1), 1);
    }

    private static void promise3() {
        KinInTheHeap x = fresh();
        due("3 kind", x.dust(6, 0, 0), -2);
        due("3 kind", x.dust(-1, 0, 0), -2);
        due("3 number", x.dust(0, 10, 0), -2);
        due("3 number", x.dust(0, -1, 0), -2);
        due("3 on", x.dust(0, 0, 36), -2);
        due("3 on, none is out as it comes", x.dust(0, 0, -1), -2);
        for (int i = 0; i < 8; i++) {
            due("3 number", x.dust(i % 6, 9 - i, 35 - i), i);
        }
        due("3 full", x.dust(0, 0, 0), -4);
        due("3 bad ahead of full", x.dust(6, 0, 0), -2);
        due("3 kept", x.told(7, 3), 2);
        due("3 kept", x.told(7, 4), 28);
        due("3 kept", x.told(7, 5), 1);
        due("3 one on a crack", fresh().dust(0, 0, 0), 0);
    }

    private static void promise4() {
        KinInTheHeap x = fresh();
        x.dust(MOTE, 1, 8);
        x.dust(SPARK, 2, 8);
        x.dust(CINDER, 3, 9);
        x.dust(SHOE, 4, 10);
        x.dust(UNCLE, 5, 11);
        x.set(0, 0, 17);
        x.set(2, 8, 1);
        due("4 week", x.told(MAX, 0), 17);
        due("4 force", x.told(MIN, 1), 3);
        due("4 crack", x.told(8, 2), 1);
        due("4 crack", x.told(9, 2), 0);
        due("4 number", x.told(4, 3), 5);
        due("4 where", x.told(4, 4), 11);
        due("4 kind", x.told(3, 5), SHOE);
        due("4 kin", x.told(0, 6), 3);
        due("4 kin", x.told(1, 6), 3);
        due("4 kin", x.told(2, 6), 4);
        due("4 in", x.told(8, 10), 3);
        due("4 in", x.told(0, 10), 0);
        x.set(4, 0, -1);
        x.set(4, 3, -1);
        due("4 out", x.told(0, 4), -1);
        due("4 kin who are out", x.told(3, 6), 9);
        due("4 out", x.told(0, 5), MOTE);
        for (int what = 7; what < 10; what++) {
            due("4 out " + what, x.told(0, what), -1);
        }
        int[][] none = {{0, -1}, {0, 11}, {5, 3}, {-1, 3}, {5, 4}, {5, 5}, {5, 6}, {5, 7}, {5, 8}, {5, 9}, {-1, 9}, {36, 2}, {-1, 2},
            {36, 10}, {-1, 10}, {MIN, 10}, {MAX, MAX}};
        for (int[] c : none) {
            due("4 none such " + c[0] + " " + c[1], x.told(c[0], c[1]), -1000);
        }
    }

    /** goes, frees, draws of the kinds in their order, as the terms have them. */
    private static void kinds() {
        int[][] far = {
            {0, 0, 0, 1, 0, 2, 0}, {1, 1, 0, 2, 0, 4, 0}, {3, 3, 1, 4, 0, 8, 0}, {5, 5, 2, 6, 0, 9, 0},
            {6, 6, 3, 7, 0, 9, 7}, {8, 8, 4, 9, 0, 9, 7}, {9, 9, 4, 9, 0, 9, 7}};
        for (int[] f : far) {
            KinInTheHeap x = fresh();
            for (int k = 0; k < 6; k++) {
                x.dust(k, 7, k);
            }
            x.set(1, 0, f[0]);
            for (int k = 0; k < 6; k++) {
                due("goes of kind " + k + " by " + f[0], x.told(k, 7), f[k + 1]);
            }
            x.dust(MOTE, 0, 3);
            due("goes of a shoe that is not alone", x.told(3, 7), f[0] / 2);
        }
        KinInTheHeap x = fresh();
        for (int k = 0; k < 6; k++) {
            x.dust(k, 4, k);
        }
        due("frees no", free(x), 0b110100);
        x.set(0, 0, 1);
        due("frees no, odd week", free(x), 0b100100);
        rule(x, "goes 0-5;frees 0-2;draws 0-1;");
        due("frees yes, odd week", free(x), 0b000101);
        x.set(1, 0, 9);
        x.set(0, 0, 2);
        due("frees yes, force 9", free(x), 0b011101);
        due("goes below 0 is 0", x.told(0, 7), 0);
        due("goes below 0 is held ahead of a spark", x.told(2, 7), 1);
        due("goes below 0 is held ahead of a soot", x.told(4, 7), 2);
        due("ways of -1", ways(x), 404030);
        x.set(3, 5, 5);
        due("ways of -1, cinder above 4", ways(x), 404034);
        rule(x, "goes 9999*9999*9;frees 0;draws week;");
        due("goes above 9 is 9", x.told(0, 7), 9);
        int[] due = {0, 101021, 202012, 303043, 404034, 0};
        for (int w = 0; w < 6; w++) {
            x.set(0, 0, w);
            due("ways of " + w, ways(x), due[w]);
        }
    }

    private static int free(KinInTheHeap x) {
        int bits = 0;
        for (int k = 0; k < 6; k++) {
            bits |= x.told(k, 8) << k;
        }
        return bits;
    }

    /** The ways of the six, a digit each. */
    private static int ways(KinInTheHeap x) {
        int all = 0;
        for (int k = 0; k < 6; k++) {
            all = all * 10 + x.told(k, 9);
        }
        return all;
    }

    private static void promise5() {
        KinInTheHeap x = fresh();
        due("5 bad", x.feed(-1), -2);
        due("5 bad", x.feed(256), -2);
        for (int i = 1; i <= 160; i++) {
            due("5 feed", x.feed(i % 2 == 0 ? 0 : 255), i);
        }
        due("5 full", x.feed(0), -4);
        due("5 bad ahead of full", x.feed(256), -2);
        due("5 kept", x.count(4), 160);
        due("5 emptied", x.text(), -100);
        due("5 again", x.feed(103), 1);
    }

    private static void promise6() {
        KinInTheHeap x = fresh();
        due("6 empty", x.text(), -100);
        for (int i = 1; i < 6; i++) {
            due("6 text", read(x, "goes 1;frees 1;draws 1;"), i);
            due("6 tape is empty", x.count(4), 0);
        }
        due("6 full", read(x, "goes ?"), -4);
        due("6 the tape stays", x.count(4), 6);
        due("6 count", x.count(3), 6);
        KinInTheHeap y = fresh();
        due("6 fault", read(y, "goes ?"), -105);
        due("6 tape is empty by a fault, too", y.count(4), 0);
        due("6 no text by a fault", y.count(3), 1);
    }

    private static void promise7() {
        KinInTheHeap x = fresh();
        x.dust(MOTE, 0, 0);
        due("7 none such", x.force(1), -2);
        due("7 none such", x.force(-1), -2);
        due("7 itself", x.force(0), 0);
        read(x, "goes 7;frees 0;draws 0;");
        due("7 not yet", x.told(0, 7), 3);
        due("7 was", x.force(1), 0);
        due("7 rule", x.count(5), 1);
        due("7 goes", x.told(0, 7), 7);
        due("7 none such", x.force(2), -2);
        due("7 was", x.force(0), 1);
        due("7 goes", x.told(0, 7), 3);
    }

    private static void promise8() {
        KinInTheHeap x = fresh();
        due("8 bad", x.stroke(-1), -2);
        due("8 bad", x.stroke(24), -2);
        x.dust(MOTE, 0, 12);
        x.dust(MOTE, 0, 14);
        x.dust(MOTE, 0, 15);
        x.dust(MOTE, 0, 9);
        due("8 row 2 to more", x.stroke(4), 1);
        due("8 three cells on", x.told(0, 4), 15);
        due("8 to the last cell", x.told(1, 4), 17);
        due("8 over the edge", x.told(2, 4), -1);
        due("8 another row", x.told(3, 4), 9);
        due("8 column 3 to more", x.stroke(18), 0);
        due("8 down", x.told(0, 4), 33);
        due("8 down", x.told(3, 4), 27);
        due("8 column 3 to less", x.stroke(19), 0);
        due("8 up", x.told(0, 4), 15);
        due("8 up", x.told(3, 4), 9);
        due("8 row 2 to less", x.stroke(5), 0);
        due("8 back", x.told(0, 4), 12);
        due("8 back", x.told(1, 4), 14);
        x.set(2, 13, 1);
        due("8 into a crack", x.stroke(4), 0);
        due("8 not on from it", x.told(0, 4), 13);
        due("8 on", x.told(1, 4), 17);
        due("8 stuck", x.stroke(4), 1);
        due("8 stuck", x.told(0, 4), 13);
        due("8 out", x.told(1, 4), -1);
        x.dust(SPARK, 0, 13);
        x.set(2, 16, 1);
        due("8 the free come out, but not on from the next", x.stroke(4), 0);
        due("8 next crack", x.told(4, 4), 16);
        due("8 out of the last crack over the edge", x.stroke(4), 1);
        due("8 those out are not out anew", x.stroke(4), 0);
        KinInTheHeap y = fresh();
        y.dust(SHOE, 0, 0);
        y.dust(MOTE, 0, 0);
        y.set(1, 0, 4);
        due("8 all told ahead", y.stroke(0), 0);
        due("8 the shoe was not alone", y.told(0, 4), 2);
        due("8 the mote", y.told(1, 4), 4);
        due("8 all of 24", y.stroke(23), 0);
    }

    private static void promise9() {
        KinInTheHeap x = fresh();
        rule(x, "goes 1;frees 0;draws week;");
        x.dust(MOTE, 0, 7);
        x.dust(SOOT, 0, 7);
        x.dust(CINDER, 4, 7);
        x.dust(MOTE, 0, 35);
        x.set(2, 8, 1);
        due("9 week 0: nowhere", x.week(), 0);
        due("9 nowhere", x.told(0, 4), 7);
        due("9 is 1 more", x.told(0, 0), 1);
        due("9 week 1", x.week(), 1);
        due("9 over the edge", x.told(3, 4), -1);
        due("9 a column more", x.told(0, 4), 8);
        due("9 the other way", x.told(1, 4), 6);
        due("9 a cinder of 4 nowhere", x.told(2, 4), 7);
        due("9 week 2", x.week(), 0);
        due("9 stuck in a crack", x.told(0, 4), 8);
        due("9 a column more", x.told(1, 4), 7);
        due("9 week 3", x.week(), 0);
        due("9 a row less", x.told(1, 4), 1);
        due("9 week 4", x.week(), 0);
        due("9 a row more", x.told(1, 4), 7);
        x.set(0, 0, 998);
        due("9 week 998", x.week(), 0);
        due("9 week 999", x.week(), -3);
        due("9 refused", x.told(0, 0), 999);
        KinInTheHeap y = fresh();
        rule(y, "goes 0;frees 1;draws 3-(kin<2);");
        y.set(2, 12, 1);
        y.dust(MOTE, 0, 12);
        y.dust(MOTE, 0, 12);
        due("9 free, all told ahead", y.week(), 0);
        due("9 free, all told ahead", y.where(0), 1L << 18);
    }

    private static void promise10() {
        KinInTheHeap x = fresh();
        x.dust(MOTE, 0, 12);
        x.dust(MOTE, 0, 14);
        x.dust(MOTE, 0, 3);
        x.dust(MOTE, 0, 3);
        fill(x, 1, 2, 4, 18, 4);
        due("10 out", x.sweep(1, 0), 1);
        due("10 together", x.sweep(1, 1), 1);
        due("10 heaps", x.sweep(1, 2), 2);
        due("10 spread", x.sweep(1, 3), 4);
        due("10 where", x.sweep(1, 10), 33);
        due("10 where", x.sweep(1, 11), -1);
        due("10 where", x.sweep(1, 12), 21);
    }

    private static void promise11() {
        KinInTheHeap x = fresh();
        x.dust(MOTE, 0, 12);
        fill(x, 0, 1, 4, 4, 4, 0);
        due("11 out", x.sweeps(0), 1);
        due("11 truly", x.told(0, 4), -1);
        fill(x, 1, 0);
        due("11 an empty sheet", x.sweeps(1), 0);
        due("11 bad", x.sweeps(-1), -2);
        due("11 bad", x.sweeps(4), -2);
        due("11 missing", x.sweeps(3), -11);
        x.set(4, 0, 12);
        fill(x, 2, 2, 4, 24);
        due("11 no stroke", x.sweeps(2), -2);
        due("11 nothing went", x.told(0, 4), 12);
        fill(x, 2, 2, 4, -1);
        due("11 no stroke", x.sweeps(2), -2);
        due("11 nothing went", x.told(0, 4), 12);
    }

    private static void promise10Edges() {
        KinInTheHeap x = fresh();
        x.dust(MOTE, 0, 12);
        fill(x, 1, 0, 4, 4);
        due("10 none is out any more", x.sweep(1, 10), -1);
        due("10 in thought", x.told(0, 4), 12);
        due("10 sheet", x.sweep(4, 0), -2);
        due("10 sheet", x.sweep(-1, 0), -2);
        due("10 what", x.sweep(1, -1), -2);
        due("10 what", x.sweep(1, 4), -2);
        due("10 what", x.sweep(1, 9), -2);
        due("10 what", x.sweep(1, 11), -2);
        due("10 what ahead of missing", x.sweep(0, 4), -2);
        due("10 missing", x.sweep(0, 0), -11);
        fill(x, 2, 0, 4, 24);
        due("10 no stroke", x.sweep(2, 0), -2);
        fill(x, 3, 0, 256);
        due("10 the lowest bits are a stroke", x.sweep(3, 0), 0);
        fill(x, 3, 1, 0);
        x.sheet(3, 1, 0);
        due("10 empty", x.sweep(3, 2), 1);
    }

    private static void promise12() {
        KinInTheHeap x = fresh();
        int[] on = {0, 35, 35, 35, 5, 5, 17};
        for (int c : on) {
            x.dust(MOTE, 0, c);
        }
        x.set(4, 6, -1);
        due("12 heaps", x.floor(0), 3);
        due("12 greatest", x.floor(1), 3);
        due("12 together", x.floor(2), 4);
        due("12 spread", x.floor(3), 3 * 10 + 2 * 5 + 3 * 2 * 5);
        due("12 out", x.floor(4), 64);
        due("12 bad", x.floor(-1), -2);
        due("12 bad", x.floor(5), -2);
        KinInTheHeap y = fresh();
        for (int what = 0; what < 5; what++) {
            due("12 bare " + what, y.floor(what), 0);
        }
        y.dust(MOTE, 0, 0);
        y.dust(MOTE, 0, 0);
        y.set(4, 0, -1);
        y.set(4, 1, -1);
        for (int what = 0; what < 4; what++) {
            due("12 all out " + what, y.floor(what), 0);
        }
    }

    private static void promise13() {
        KinInTheHeap x = fresh();
        x.dust(MOTE, 0, 14);
        x.dust(MOTE, 0, 35);
        x.set(2, 35, 1);
        x.set(2, 0, 1);
        due("13 in", x.where(0), 1L << 14 | 1L << 35);
        due("13 cracks", x.where(1), 1L << 35 | 1L);
        due("13 would come", x.where(10), 1L << 14 | 1L << 17 | 1L << 32);
        due("13 stuck", x.where(11), 1L << 35);
        due("13 in thought", x.told(0, 4), 14);
        due("13 no", x.where(-1), NO);
        due("13 no", x.where(2), NO);
        due("13 no", x.where(9), NO);
        due("13 no", x.where(12), NO);
        due("13 no", x.where(MIN), NO);
        x.set(4, 0, -1);
        due("13 out", x.where(10), 0);
        due("13 out", x.where(0), 1L << 35);
    }

    private static void promise14() {
        KinInTheHeap x = fresh();
        x.dust(MOTE, 0, 0);
        x.dust(MOTE, 0, 0);
        x.dust(UNCLE, 0, 2);
        x.dust(MOTE, 0, 34);
        x.dust(SPARK, 0, 23);
        due("14 none", x.gather(3, 0), 0);
        due("14 none", x.gather(3, 1), 0);
        due("14 one alone", x.gather(16, 1), 0);
        due("14 one stroke", x.gather(5, 0), 1);
        due("14 the stroke", x.gather(5, 1), 1);
        due("14 bad", x.gather(0, 0), -2);
        due("14 bad", x.gather(32, 0), -2);
        due("14 bad", x.gather(-1, 0), -2);
        due("14 bad", x.gather(1, 2), -2);
        due("14 bad", x.gather(1, -1), -2);
        due("14 none by two", x.gather(31, 0), -1);
        due("14 none by two", x.gather(31, 1), -1);
        due("14 in thought", x.told(0, 4), 0);
        x.set(4, 0, -1);
        due("14 one is out", x.gather(1, 0), -1);
        due("14 one is out", x.gather(5, 1), -1);
        KinInTheHeap y = fresh();
        y.dust(MOTE, 0, 0);
        y.dust(MOTE, 0, 21);
        due("14 the other one goes, too", y.gather(3, 0), -1);
        y.set(2, 21, 1);
        due("14 two strokes", y.gather(3, 0), 2);
        due("14 the first of like ones: row 0 to more, column 3 to more", y.gather(3, 1), 119);
        y.set(2, 6, 1);
        y.set(2, 3, 1);
        y.set(4, 0, 3);
        y.set(4, 1, 3);
        due("14 both in a crack", y.gather(3, 1), 0);
        y.set(1, 0, 1);
        y.set(2, 1, 1);
        y.set(2, 6, 0);
        y.set(2, 7, 1);
        y.set(4, 0, 6);
        y.set(4, 1, 1);
        due("14 column 0 to less, then row 0 to more", y.gather(3, 1), 1401);
    }

    private static void best(String call, KinInTheHeap x, int... answers) {
        for (int what = 0; what < 6; what++) {
            due("15 " + call + " " + what, x.best(what), answers[what]);
        }
        due("15 bad", x.best(-1), -2);
        due("15 bad", x.best(6), -2);
    }

    private static void promise15() {
        KinInTheHeap x = fresh();
        best("bare", x, 0, 0, 0, 0, -1, -1);
        x.dust(MOTE, 0, 12);
        x.dust(UNCLE, 0, 14);
        x.set(1, 0, 4);
        best("both come to 16", x, 4, 1, 4, 0, 4, 0);
        due("15 in thought", x.where(0), 1L << 12 | 1L << 14);
        x.set(4, 0, -1);
        x.set(4, 1, 35);
        best("one is out ahead", x, 0, 0, 0, 0, 11, 1);
        KinInTheHeap y = fresh();
        y.dust(MOTE, 0, 2);
        y.dust(MOTE, 0, 5);
        best("a row loses one, a column none", y, 0, 0, 0, 0, 16, 0);
        y.set(1, 0, 9);
        best("all are lost", y, 0, 0, 0, 0, 16, 1);
        KinInTheHeap z = fresh();
        z.dust(CINDER, 9, 0);
        z.dust(MOTE, 0, 35);
        z.dust(MOTE, 0, 35);
        z.set(2, 35, 1);
        best("nobody goes anywhere", z, 0, 1, 0, 20, -1, -1);
    }

    private static void promise16() {
        KinInTheHeap x = fresh();
        x.dust(MOTE, 0, 3);
        x.dust(MOTE, 0, 4);
        x.dust(MOTE, 0, 12);
        due("16 save both", x.save(0, 0), 5);
        due("16 none out then", x.save(0, 1), 0);
        due("16 nobody would be out", x.save(4, 0), -1);
        due("16 as so", x.save(4, 1), 0);
        x.dust(MOTE, 0, 5);
        due("16 nobody is in it", x.save(0, 0), -1);
        due("16 as so", x.save(0, 1), 3);
        x.set(4, 3, -1);
        due("16 fewest", x.save(0, 0), 5);
        due("16 one is out ahead", x.save(0, 1), 1);
        x.set(2, 5, 1);
        due("16 there is one", x.save(0, 0), -1);
        due("16 in thought", x.where(1), 32);
        due("16 bad", x.save(-1, 0), -2);
        due("16 bad", x.save(24, 0), -2);
        due("16 bad", x.save(0, -1), -2);
        due("16 bad", x.save(0, 2), -2);
        KinInTheHeap y = fresh();
        y.dust(MOTE, 0, 33);
        due("16 the first of like ones", y.save(10, 0), 34);
        due("16 not out", y.save(10, 1), 0);
        y.set(1, 0, 9);
        due("16 the first of like ones", y.save(11, 0), 30);
    }

    private static void promise17() {
        KinInTheHeap x = fresh();
        rule(x, "goes 0;frees 0;draws 1;");
        x.dust(MOTE, 0, 0);
        x.dust(UNCLE, 0, 0);
        due("17 lasts", x.lasts(0, 40), 6);
        due("17 lasts", x.lasts(0, 6), 6);
        due("17 n at most", x.lasts(0, 5), -1);
        due("17 n 0", x.lasts(0, 0), -1);
        due("17 nowhere", x.lasts(1, 40), -1);
        x.set(0, 0, 999);
        due("17 the week may pass 999", x.lasts(0, 40), 6);
        due("17 in thought", x.told(0, 0), 999);
        due("17 in thought", x.told(0, 4), 0);
        due("17 bad", x.lasts(2, 0), -2);
        due("17 bad", x.lasts(-1, 0), -2);
        due("17 bad", x.lasts(0, 41), -2);
        due("17 bad", x.lasts(0, -1), -2);
        x.set(4, 0, -1);
        due("17 now", x.lasts(0, 40), 0);
        due("17 now", x.lasts(0, 0), 0);
        rule(x, "goes 0;frees 0;draws (999<week)*3;");
        x.set(4, 0, 30);
        due("17 by the week that would be", x.lasts(0, 40), 2);
    }

    private static void promise18() {
        KinInTheHeap x = fresh();
        due("18 no dust", x.share(0), NO);
        due("18 no dust", x.share(1), NO);
        for (int i = 0; i < 8; i++) {
            x.dust(MOTE, 0, 0);
        }
        due("18 none", x.share(0), 0);
        due("18 none", x.share(1), 1);
        x.set(4, 0, -1);
        x.set(4, 3, -1);
        due("18 quarter", x.share(0), 1);
        due("18 quarter", x.share(1), 4);
        x.set(4, 4, -1);
        due("18 three eighths", x.share(0), 3);
        due("18 three eighths", x.share(1), 8);
        due("18 no", x.share(2), NO);
        due("18 no", x.share(-1), NO);
    }

    private static void promise19() {
        KinInTheHeap x = fresh();
        read(x, "goes force+1;frees 0;draws 0;");
        read(x, "goes number*(week=7 or week=9);frees 0;draws 0;");
        read(x, "goes force*(row<2);frees 0;draws 0;");
        x.dust(MOTE, 5, 7);
        x.dust(SPARK, 5, 7);
        x.dust(MOTE, 5, 35);
        x.dust(MOTE, 0, 3);
        x.set(4, 3, -1);
        fill(x, 0, 1, 0, 1, 2, 3);
        fill(x, 1, 2, 1, 2, 3, 5);
        fill(x, 2, 0, 5, 5);
        due("19 all so", x.tells(0, 0, 0), -1);
        due("19 the first that is otherwise", x.tells(1, 1, 0), 3);
        due("19 the first that is otherwise", x.tells(1, 0, 0), 0);
        due("19 kinds", x.tells(0, 0, 1), 1);
        due("19 numbers", x.tells(0, 0, 2), 1023);
        due("19 weeks", x.tells(0, 0, 3), 100);
        due("19 the least", x.tells(0, 0, 4), 0);
        due("19 texts", x.tells(0, 0, 5), 0b1001);
        due("19 dust, none that is out", x.tells(0, 0, 6), 0b101);
        x.force(2);
        due("19 weeks", x.tells(2, 0, 3), 2);
        due("19 the least", x.tells(2, 0, 4), 7);
        x.set(3, 0, 4);
        due("19 weeks", x.tells(2, 0, 3), 0);
        due("19 the least", x.tells(2, 0, 4), -1);
        x.set(0, 0, 9);
        due("19 numbers", x.tells(2, 0, 2), 32);
        due("19 kinds", x.tells(2, 0, 1), 1 << SPARK);
        due("19 week, number are as they were", x.told(0, 0), 9);
        due("19 week, number are as they were", x.told(0, 3), 4);
        due("19 force is as it was", x.told(0, 1), 3);
        due("19 bad", x.tells(-1, 0, 0), -2);
        due("19 bad", x.tells(4, 0, 0), -2);
        due("19 bad", x.tells(0, 4, 0), -2);
        due("19 bad", x.tells(0, -1, 0), -2);
        due("19 out", x.tells(0, 3, 0), -2);
        due("19 bad", x.tells(0, 0, -1), -2);
        due("19 bad", x.tells(0, 0, 7), -2);
        due("19 bad ahead of missing", x.tells(3, 0, 7), -2);
        due("19 missing", x.tells(3, 0, 0), -11);
        rule(x, "goes (week=99)+2*(week=100);frees 0;draws 0;");
        fill(x, 3, 0, 1);
        due("19 week 99", x.tells(3, 0, 3), 1);
        due("19 week 99", x.tells(3, 0, 4), 99);
        x.cell(3, 0, 2);
        due("19 week 100 is none of them", x.tells(3, 0, 3), 0);
        due("19 week 100 is none of them", x.tells(3, 0, 4), -1);
        x.force(2);
        x.sheet(3, 0, 10);
        due("19 ten", x.tells(3, 0, 6), 0);
        x.sheet(3, 0, 11);
        due("19 more than ten", x.tells(3, 0, 0), -2);
        x.sheet(3, 0, 0);
        due("19 an empty one tells nothing that is otherwise", x.tells(3, 0, 5), 31);
    }

    private static void promise20() {
        KinInTheHeap x = fresh();
        rule(x, "goes force*(row=1)+kin-1;frees 0;draws 0;");
        x.dust(MOTE, 0, 35);
        x.dust(MOTE, 0, 8);
        x.dust(MOTE, 0, 0);
        fill(x, 0, 0, 0, 1);
        fill(x, 1, 0, 1, 2);
        fill(x, 2, 0, 1, 1);
        due("20 row 1, alone", x.places(0, 0), 0b111011L << 6);
        due("20 row 1, with another", x.places(1, 0), 1L << 8);
        due("20 another row, with another", x.places(2, 0), 1L);
        due("20 itself is not another", x.places(2, 2), 1L << 35);
        due("20 in thought", x.told(0, 4), 35);
        x.sheet(3, 0, 11);
        due("20 too many", x.places(3, 0), NO);
        x.sheet(3, -1, 0);
        due("20 missing", x.places(3, 0), NO);
        due("20 sheet", x.places(4, 0), NO);
        due("20 sheet", x.places(-1, 0), NO);
        due("20 one", x.places(0, 3), NO);
        due("20 one", x.places(0, -1), NO);
        x.set(4, 0, -1);
        due("20 out", x.places(0, 0), NO);
    }

    private static void promise21() {
        KinInTheHeap x = fresh();
        x.dust(SPARK, 0, 0);
        x.dust(CINDER, 4, 0);
        x.sheet(1, 2, 40);
        due("21 a spark: 1 .. 9, 9", x.film(0, 0), 54);
        due("21 a cinder: 4 by 6 .. 9", x.film(1, 1), 16);
        due("21 told back", x.tells(0, 0, 0), -1);
        due("21 told back", x.tells(0, 0, 6), 1);
        due("21 told back", x.tells(1, 1, 2), 16);
        due("21 ten of bytes", x.cell(1, 9, 0), 1);
        due("21 ten of bytes", x.cell(1, 10, 0), -12);
        due("21 like sorts", x.copy(0, 0, 1, 0, 10), 10);
        due("21 force is as it was", x.told(0, 1), 3);
        due("21 bad", x.film(-1, 0), -2);
        due("21 bad", x.film(4, 0), -2);
        due("21 bad", x.film(0, 2), -2);
        due("21 bad", x.film(0, -1), -2);
        x.set(4, 0, -1);
        due("21 out", x.film(3, 0), -2);
        due("21 refused", x.cell(3, 0, 0), -11);
    }

    /** The strokes that are drawn are worked out by long arithmetic, modulo 2 to 32. */
    private static int drawnStroke(int seed, int k) {
        long z = seed & 0xFFFFFFFFL;
        for (int i = 0; i <= k; i++) {
            z = (z * 1103515245L + 12345L) & 0xFFFFFFFFL;
        }
        return (int) ((z >> 9) % 24);
    }

    private static int drawnOut(int seed, int n) {
        KinInTheHeap x = fresh();
        for (int d = 0; d < 8; d++) {
            x.dust(MOTE, 0, d * 5);
        }
        for (int k = 0; k < n; k++) {
            x.stroke(drawnStroke(seed, k));
        }
        return (int) Integer.bitCount(x.floor(4));
    }

    private static void promise22() {
        due("22 the first stroke of seed 0", drawnStroke(0, 0), 0);
        KinInTheHeap x = fresh();
        for (int d = 0; d < 8; d++) {
            x.dust(MOTE, 0, d * 5);
        }
        int[] seeds = {0, 1, -1, 12345, MIN, MAX};
        for (int seed : seeds) {
            for (int n = 0; n <= 40; n += 5) {
                due("22 drawn " + seed + " " + n, x.drawn(seed, n), drawnOut(seed, n));
            }
        }
        due("22 bad", x.drawn(0, -1), -2);
        due("22 bad", x.drawn(0, 41), -2);
        due("22 in thought", x.floor(4), 0);
        x.set(4, 0, -1);
        due("22 those out ahead, too", x.drawn(0, 0), 1);
    }

    private static void promise23() {
        KinInTheHeap x = fresh();
        for (int d = 0; d < 8; d++) {
            x.dust(MOTE, 0, d * 5);
        }
        int[] seeds = {0, MAX - 3};
        for (int seed : seeds) {
            for (int k = 0; k <= 8; k++) {
                int hits = 0;
                for (int i = 0; i < 12; i++) {
                    hits += drawnOut(seed + i, 6) <= k ? 1 : 0;
                }
                long above = x.chance(seed, 12, k, 0);
                long below = x.chance(seed, 12, k, 1);
                due("23 share " + k, above * 12, hits * below);
                due("23 lowest terms " + k, java.math.BigInteger.valueOf(above).gcd(java.math.BigInteger.valueOf(below)).intValue(), 1);
            }
        }
        due("23 all", x.chance(0, 20, 8, 0), 1);
        due("23 all", x.chance(0, 20, 8, 1), 1);
        due("23 no", x.chance(0, 0, 0, 0), NO);
        due("23 no", x.chance(0, 21, 0, 0), NO);
        due("23 no", x.chance(0, 1, -1, 0), NO);
        due("23 no", x.chance(0, 1, 9, 0), NO);
        due("23 no", x.chance(0, 1, 0, -1), NO);
        due("23 no", x.chance(0, 1, 0, 2), NO);
        for (int d = 0; d < 8; d++) {
            x.set(4, d, -1);
        }
        due("23 none", x.chance(0, 20, 7, 0), 0);
        due("23 none", x.chance(0, 20, 7, 1), 1);
    }

    private static void promises24And25() {
        KinInTheHeap x = fresh();
        due("25 state", x.back(), -3);
        x.dust(MOTE, 1, 0);
        x.dust(UNCLE, 2, 1);
        x.set(2, 9, 1);
        due("24 image", x.image(), 2);
        rule(x, "goes 0;frees 0;draws 0;");
        x.dust(MOTE, 3, 2);
        x.set(0, 0, 5);
        x.set(1, 0, 6);
        x.set(2, 9, 0);
        x.set(2, 10, 1);
        x.set(3, 0, 7);
        x.set(4, 1, -1);
        x.feed(103);
        x.sheet(0, 0, 1);
        due("25 back", x.back(), 2);
        due("25 week", x.told(0, 0), 0);
        due("25 force", x.told(0, 1), 3);
        due("25 cracks", x.where(1), 1 << 9);
        due("25 number", x.told(0, 3), 1);
        due("25 where", x.told(1, 4), 1);
        due("25 kind", x.told(1, 5), UNCLE);
        due("25 rule", x.count(5), 0);
        due("25 dust that came since go", x.told(2, 3), -1000);
        due("25 dust", x.count(0), 2);
        due("25 texts stay", x.count(3), 2);
        due("25 the tape stays", x.count(4), 1);
        due("25 sheets stay", x.cell(0, 0, 0), 1);
        due("25 anew", x.dust(SOOT, 9, 35), 2);
        due("25 anew", x.told(2, 5), SOOT);
        x.set(0, 0, 8);
        due("25 as often as one likes", x.back(), 2);
        due("25 week", x.told(0, 0), 0);
        x.dust(MOTE, 0, 0);
        due("24 the next image", x.image(), 3);
        due("25 the next image", x.back(), 3);
        KinInTheHeap bare = fresh();
        due("24 bare", bare.image(), 0);
        due("25 bare", bare.back(), 0);
    }

    private static void promise26() {
        KinInTheHeap x = fresh();
        x.dust(MOTE, 0, 0);
        x.dust(MOTE, 0, 0);
        x.set(4, 0, -1);
        x.set(2, 0, 1);
        x.set(2, 35, 1);
        x.set(2, 34, 1);
        x.set(0, 0, 77);
        rule(x, "goes 0;frees 0;draws 0;");
        x.feed(0);
        int[] counts = {2, 3, 77, 2, 1, 1};
        for (int i = 0; i < counts.length; i++) {
            due("26 count " + i, x.count(i), counts[i]);
        }
        due("26 bad", x.count(-1), -2);
        due("26 bad", x.count(6), -2);
    }

    private static void promise27() {
        KinInTheHeap x = fresh();
        due("27 sheet", x.sheet(0, 0, 40), 1);
        due("27 sheet", x.sheet(3, 2, 0), 1);
        due("27 bad", x.sheet(-1, 0, 1), -2);
        due("27 bad", x.sheet(4, 0, 1), -2);
        due("27 bad", x.sheet(0, -2, 1), -2);
        due("27 bad", x.sheet(0, 3, 1), -2);
        due("27 bad", x.sheet(0, 0, 41), -2);
        due("27 bad", x.sheet(0, 0, MAX), -2);
        due("27 below 0", x.sheet(0, 0, -1), -14);
        due("27 below 0", x.sheet(0, 1, MIN), -14);
        due("27 bad ahead of below 0", x.sheet(4, 0, -1), -2);
        due("27 bad ahead of below 0", x.sheet(0, 3, -1), -2);
        due("27 refused", x.cell(0, 39, 5), 1);
        due("27 all 0 anew", x.sheet(0, 0, 40), 1);
        due("27 all 0 anew", x.sweep(0, 0), 0);
        due("27 missing", x.sheet(0, -1, MAX), 1);
        due("27 missing", x.sheet(1, -1, MIN), 1);
        due("27 missing", x.cell(0, 0, 0), -11);
    }

    private static void promise28() {
        KinInTheHeap x = fresh();
        x.dust(MOTE, 0, 0);
        due("28 sheet", x.cell(-1, 0, 0), -2);
        due("28 sheet", x.cell(4, 0, 0), -2);
        due("28 missing", x.cell(2, -1, 0), -11);
        x.sheet(2, 0, 2);
        due("28 outside", x.cell(2, -1, 0), -12);
        due("28 outside", x.cell(2, 2, 0), -12);
        due("28 outside", x.cell(2, MIN, 0), -12);
        for (int sort = 0; sort < 3; sort++) {
            x.sheet(2, sort, 2);
            due("28 item", x.cell(2, 1, 1), 1);
            due("28 the items told", x.tells(2, 0, 0), -1);
            x.cell(2, 1, 1 + 256);
            due("28 the lowest 8 bits", x.tells(2, 0, 0), sort == 0 ? -1 : 1);
            x.cell(2, 1, 1 + 65536 * 7);
            due("28 the lowest 16 bits", x.tells(2, 0, 0), sort < 2 ? -1 : 1);
        }
    }

    private static void promise29() {
        KinInTheHeap x = fresh();
        x.dust(MOTE, 0, 0);
        fill(x, 0, 1, 0, 1, 2, 3, 4, 5);
        due("29 as they were", x.copy(0, 0, 0, 1, 5), 5);
        x.copy(0, 1, 0, 0, 5);
        due("29 to less, as they were", x.tells(0, 0, 0), 5);
        fill(x, 1, 1, 9, 9, 9, 9);
        due("29 to another", x.copy(0, 0, 1, 0, 4), 4);
        due("29 come", x.tells(1, 0, 0), -1);
        due("29 none", x.copy(0, 6, 1, 4, 0), 0);
        due("29 sheet", x.copy(-1, 0, 1, 0, 1), -2);
        due("29 sheet", x.copy(0, 0, 4, 0, 1), -2);
        due("29 missing", x.copy(2, 0, 1, 0, 1), -11);
        due("29 missing", x.copy(1, 0, 2, 0, 1), -11);
        due("29 sheet ahead of missing", x.copy(2, 0, 4, 0, 1), -2);
        x.sheet(2, 2, 4);
        due("29 unlike", x.copy(0, 0, 2, 0, 1), -13);
        due("29 unlike ahead of outside", x.copy(0, -1, 2, 0, 1), -13);
        int[][] outside = {{-1, 0, 1}, {0, -1, 1}, {0, 0, -1}, {0, 0, 5}, {6, 0, 1}, {3, 0, 4}, {0, 4, 1}, {7, 0, 0}, {0, 5, 0},
            {MAX, 0, 2}, {0, MAX, MAX}, {0, 0, MAX}, {0, 0, MIN}, {MIN, 0, 0}};
        for (int[] c : outside) {
            due("29 outside " + c[0] + " " + c[1] + " " + c[2], x.copy(0, c[0], 1, c[1], c[2]), -12);
        }
        due("29 refused", x.tells(1, 0, 0), -1);
    }

    private static void promise30() {
        KinInTheHeap x = fresh();
        fill(x, 0, 1, 9, CINDER, 8, 7, MOTE, 0, -1, SOOT, 1, 2, UNCLE, 1);
        due("30 sheet", x.heap(-1, 0, 0, 0), -2);
        due("30 sheet", x.heap(4, 0, 0, 0), -2);
        due("30 sort", x.heap(0, -1, 0, 0), -2);
        due("30 sort", x.heap(0, 3, 0, 0), -2);
        due("30 n", x.heap(0, 1, 0, -1), -2);
        due("30 n", x.heap(0, 1, 0, 9), -2);
        due("30 unlike", x.heap(0, 0, 0, 0), -13);
        due("30 unlike", x.heap(0, 2, 50, 8), -13);
        due("30 missing", x.heap(1, 1, 0, 0), -11);
        due("30 none", x.heap(0, 1, 0, 0), 0);
        due("30 outside", x.heap(0, 1, -1, 1), -12);
        due("30 outside", x.heap(0, 1, MAX, 1), -12);
        due("30 outside", x.heap(0, 1, MIN, 8), -12);
        due("30 none came", x.count(0), 0);
        due("30 others are left out", x.heap(0, 1, 1, 3), 2);
        due("30 as of dust", x.told(0, 5), CINDER);
        due("30 as of dust", x.told(0, 3), 8);
        due("30 as of dust", x.told(0, 4), 7);
        due("30 as of dust", x.told(1, 4), 2);
        due("30 outside", x.heap(0, 1, 7, 2), -12);
        due("30 what stood ahead came", x.count(0), 3);
        fill(x, 2, 0, 0, 0, 0, 0, 0, 0, 0, 0, 0, 0, 0, 0, 0, 0, 0, 0, 0, 0, 0, 0, 0, 0, 0, 0, 0, 0, 0);
        due("30 no room for the rest", x.heap(2, 0, 0, 8), 5);
        due("30 full", x.count(0), 8);
        due("30 full", x.heap(2, 0, 24, 1), 0);
        due("30 full, but outside", x.heap(2, 0, 24, 2), -12);
    }

    private static void promise31() {
        KinInTheHeap x = fresh();
        int[] above = {1 << MOTE, 1 << MOTE | 1 << UNCLE, 1 << MOTE | 1 << SPARK, 1 << MOTE | 1 << UNCLE | 1 << SHOE,
            1 << MOTE | 1 << SPARK | 1 << SOOT, 1 << MOTE | 1 << CINDER};
        for (int k = 0; k < 6; k++) {
            x.dust(k, k + 2, 0);
        }
        x.set(4, 3, -1);
        for (int one = 0; one < 6; one++) {
            for (int k = 0; k < 6; k++) {
                due("31 taken " + one + " " + k, x.taken(one, k), (above[one] >> k & 1) != 0 ? one + 2 : -13);
            }
        }
        due("31 bad", x.taken(0, -1), -2);
        due("31 bad", x.taken(0, 6), -2);
        due("31 bad ahead of none such", x.taken(9, 6), -2);
        due("31 none such", x.taken(6, 0), -11);
        due("31 none such", x.taken(-1, 0), -11);
        due("31 none such ahead of unlike", x.taken(6, 5), -11);
    }

    public static void main(String[] args) {
        promise1();
        promise2();
        promise3();
        promise4();
        kinds();
        promise5();
        promise6();
        promise7();
        promise8();
        promise9();
        promise10();
        promise10Edges();
        promise11();
        promise12();
        promise13();
        promise14();
        promise15();
        promise16();
        promise17();
        promise18();
        promise19();
        promise20();
        promise21();
        promise22();
        promise23();
        promises24And25();
        promise26();
        promise27();
        promise28();
        promise29();
        promise30();
        promise31();
        System.out.println(wrong == 0 ? calls + " answers are as due" : wrong + " answers are not as due");
        if (wrong != 0) {
            System.exit(1);
        }
    }
}
