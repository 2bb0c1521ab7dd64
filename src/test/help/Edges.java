import java.util.Arrays;

/** What the tests of the document's boundary cases share: new objects in a case, and the answer that is due. */
abstract class Edges {
    static final int NONE = -1, BAD = -2, STATE = -3, FULL = -4, NONE_SUCH = -1000;
    static final int MISSING = -11, OUTSIDE = -12, UNLIKE = -13, NEGATIVE = -14;
    static final long NO = -4611686018427387904L;
    static final int MOTE = 0, UNCLE = 1, SPARK = 2, SHOE = 3, SOOT = 4, CINDER = 5;
    static final int BYTES = 0, SHORTS = 1, INTS = 2;
    static final int MIN = Integer.MIN_VALUE, MAX = Integer.MAX_VALUE;
    private static int wrong = 0;
    private static int tests = 0;

    /** The line whose number is printed stands below the remark that tells the promise and its sentence. */
    static void due(long got, long want) {
        tests++;
        if (got != want) {
            wrong++;
            StackTraceElement[] calls = new Throwable().getStackTrace();
            System.out.println(calls[1].getFileName() + ":" + calls[1].getLineNumber() + ": answered " + got + ", due is " + want);
        }
    }

    static void end() {
        System.out.println(wrong == 0 ? tests + " boundary cases are as due" : wrong + " boundary cases are not as due");
        if (wrong != 0) {
            System.exit(1);
        }
    }

    static KinInTheHeap bare() {
        return new KinInTheHeap();
    }

    /** A new floor with MOTES of NUMBER 0 in these cells; NONE: it is put out. */
    static KinInTheHeap motes(int... cells) {
        KinInTheHeap x = new KinInTheHeap();
        for (int i = 0; i < cells.length; i++) {
            x.dust(MOTE, 0, Math.max(0, cells[i]));
            if (cells[i] == NONE) {
                x.set(4, i, NONE);
            }
        }
        return x;
    }

    /** A new floor with dust, three by three: kind, number, cell. */
    static KinInTheHeap dusts(int... threes) {
        KinInTheHeap x = new KinInTheHeap();
        for (int i = 0; i < threes.length; i += 3) {
            x.dust(threes[i], threes[i + 1], threes[i + 2]);
        }
        return x;
    }

    static KinInTheHeap cracked(KinInTheHeap x, int... cells) {
        for (int c : cells) {
            x.set(2, c, 1);
        }
        return x;
    }

    static KinInTheHeap forced(KinInTheHeap x, int force) {
        x.set(1, 0, force);
        return x;
    }

    static KinInTheHeap inWeek(KinInTheHeap x, int week) {
        x.set(0, 0, week);
        return x;
    }

    static KinInTheHeap fed(KinInTheHeap x, String s) {
        for (int i = 0; i < s.length(); i++) {
            x.feed(s.charAt(i));
        }
        return x;
    }

    /** The text is read, and is the rule from then on. */
    static KinInTheHeap ruled(KinInTheHeap x, String s) {
        int text = fed(x, s).text();
        if (text < 1 || x.force(text) < 0) {
            wrong++;
            System.out.println("no text, as text() answered " + text + ": " + s);
        }
        return x;
    }

    static KinInTheHeap row(KinInTheHeap x, int sheet, int sort, int... items) {
        x.sheet(sheet, sort, items.length);
        for (int i = 0; i < items.length; i++) {
            x.cell(sheet, i, items[i]);
        }
        return x;
    }

    static int[] times(int n, int v) {
        int[] all = new int[n];
        Arrays.fill(all, v);
        return all;
    }
}
