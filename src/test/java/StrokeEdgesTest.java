/**
 * Boundary cases of strokes, weeks and what is told of the floor (promises 8 to 13); a test each.
 * The remark ahead of a test tells the promise, the sentence of the document, and the case.
 */
public final class StrokeEdgesTest extends Edges {

    /** Where the first of dust is behind a stroke. */
    private static int behind(KinInTheHeap x, int s) {
        x.stroke(s);
        return x.told(0, 4);
    }

    /** Where the first of dust is behind a week. */
    private static int behindWeek(KinInTheHeap x) {
        x.week();
        return x.told(0, 4);
    }

    private static KinInTheHeap drawing(KinInTheHeap x, String e) {
        return ruled(x, "goes 0;frees 0;draws " + e + ";");
    }

    private static void whichStroke() {
        // Promise 8, "STROKES 0 .. 23": 0 is row 0 to more.
        due(behind(motes(0), 0), 3);
        // Promise 8, "even ones to more, odd ones to less": 1 is row 0 to less.
        due(behind(motes(5), 1), 2);
        // Promise 8, "below 12 along a ROW (STROKE by 2, cut)": 10 is row 5 to more.
        due(behind(motes(30), 10), 33);
        // Promise 8, "below 12 along a ROW (STROKE by 2, cut)": 11, the last one, is row 5 to less.
        due(behind(motes(35), 11), 32);
        // Promise 8, "else along a COLUMN ((STROKE less 12) by 2, cut)": 12, the first one, is column 0 to more.
        due(behind(motes(0), 12), 18);
        // Promise 8, "else along a COLUMN ((STROKE less 12) by 2, cut)": 13 is column 0 to less.
        due(behind(motes(30), 13), 12);
        // Promise 8, "else along a COLUMN ((STROKE less 12) by 2, cut)": 22 is column 5 to more.
        due(behind(motes(5), 22), 23);
        // Promise 8, "STROKES 0 .. 23": 23, the last one, is column 5 to less.
        due(behind(motes(35), 23), 17);
        // Promise 8, "BAD": -1.
        due(motes(0).stroke(-1), BAD);
        // Promise 8, "BAD": 24.
        due(motes(0).stroke(24), BAD);
        // Promise 8, "BAD": as small as can be.
        due(motes(0).stroke(MIN), BAD);
        // Promise 8, "BAD": as great as can be.
        due(motes(0).stroke(MAX), BAD);
        // Promise 8, "Refusals ..; they change nothing": a stroke below 0.
        due(behind(motes(0), -1), 0);
        // Promise 8, "Refusals ..; they change nothing": a stroke above 23.
        due(behind(motes(35), 24), 35);
        // Promise 8, "STROKE": on a bare floor.
        due(bare().stroke(0), 0);
    }

    private static void whichLine() {
        // Promise 8, "all IN that ROW": the last cell of row 0.
        due(forced(motes(5), 1).stroke(0), 1);
        // Promise 8, "all IN that ROW": cell 6 is in the next row.
        due(behind(motes(6), 0), 6);
        // Promise 8, "all IN that ROW": the first cell of row 5.
        due(behind(motes(30), 10), 33);
        // Promise 8, "all IN that ROW": cell 29 is in the row ahead.
        due(behind(motes(29), 10), 29);
        // Promise 8, "(or COLUMN)": the last cell of column 0.
        due(forced(motes(30), 1).stroke(12), 1);
        // Promise 8, "(or COLUMN)": cell 1 is in the next column.
        due(behind(motes(1), 12), 1);
        // Promise 8, "(or COLUMN)": the first cell of column 5.
        due(behind(motes(5), 22), 23);
        // Promise 8, "(or COLUMN)": cell 4 is in the column ahead.
        due(behind(motes(4), 22), 4);
        // Promise 8, "all IN that ROW": one that is out is in none.
        due(behind(motes(NONE), 0), NONE);
    }

    private static void overTheEdge() {
        KinInTheHeap x;
        // Promise 8, "whoever would come over the edge is OUT": to the last cell it isn't.
        due(behind(forced(motes(0), 5), 0), 5);
        // Promise 8, "whoever would come over the edge is OUT": one cell farther.
        due(behind(forced(motes(0), 6), 0), NONE);
        // Promise 8, "whoever would come over the edge is OUT": as far as can be.
        due(behind(forced(motes(0), 9), 0), NONE);
        // Promise 8, "whoever would come over the edge is OUT": row to more, not into the next row.
        due(behind(forced(motes(5), 1), 0), NONE);
        // Promise 8, "whoever would come over the edge is OUT": row to less, to the first cell it isn't.
        due(behind(forced(motes(11), 5), 3), 6);
        // Promise 8, "whoever would come over the edge is OUT": row to less, not into the row ahead.
        due(behind(forced(motes(6), 1), 3), NONE);
        // Promise 8, "whoever would come over the edge is OUT": column to more, to the last cell it isn't.
        due(behind(forced(motes(0), 5), 12), 30);
        // Promise 8, "whoever would come over the edge is OUT": column to more.
        due(behind(forced(motes(30), 1), 12), NONE);
        // Promise 8, "whoever would come over the edge is OUT": column to less, to the first cell it isn't.
        due(behind(forced(motes(35), 5), 23), 5);
        // Promise 8, "whoever would come over the edge is OUT": column to less.
        due(behind(forced(motes(5), 1), 23), NONE);
        // Promise 8, "whoever would come over the edge is OUT": column to less, from the first cell of all.
        due(behind(forced(motes(0), 1), 13), NONE);
        // Promise 8, "whoever would come over the edge is OUT": column to less, from the first cell, as far as can be.
        due(behind(forced(motes(0), 9), 13), NONE);
        // Promise 8, "CELL by CELL as many as one GOES": none.
        due(behind(forced(motes(5), 0), 0), 5);
        // Promise 8, "how many come to be OUT by it": none, who stay at the edge.
        due(forced(motes(5), 0).stroke(0), 0);
        // Promise 8, "how many come to be OUT by it": all eight.
        due(motes(5, 5, 5, 5, 5, 5, 5, 5).stroke(0), 8);
        // Promise 8, "how many come to be OUT by it": not those who are out ahead.
        due(motes(NONE, 5, NONE).stroke(0), 1);
        // Promise 8, "A STROKE, truly": the second time nobody is there.
        x = motes(5);
        x.stroke(0);
        due(x.stroke(0), 0);
        // Promise 8, "whoever would come over the edge is OUT": it has its number and is told of still.
        x = dusts(MOTE, 7, 5);
        x.stroke(0);
        due(x.told(0, 3), 7);
    }

    private static void cracksOnTheWay() {
        // Promise 8, "not on from a CRACK it comes into": one in the next cell.
        due(behind(cracked(motes(0), 1), 0), 1);
        // Promise 8, "not on from a CRACK it comes into": one where it would come to.
        due(behind(cracked(motes(0), 3), 0), 3);
        // Promise 8, "not on from a CRACK it comes into": one behind where it would come to.
        due(behind(cracked(motes(0), 4), 0), 3);
        // Promise 8, "not on from a CRACK it comes into": of two the first.
        due(behind(cracked(motes(0), 1, 2), 0), 1);
        // Promise 8, "not on from a CRACK it comes into": one at the edge, over which it would come.
        due(behind(cracked(motes(4), 5), 0), 5);
        // Promise 8, "not on from a CRACK it comes into": on a column, at the edge.
        due(behind(cracked(motes(6), 0), 13), 0);
        // Promise 8, "not on from a CRACK it comes into": who is FREE isn't on from it either.
        due(behind(cracked(dusts(SPARK, 0, 0), 2), 0), 2);
        // Promise 8, "that aren't in a CRACK, or are FREE": not free, in a crack.
        due(behind(cracked(motes(0), 0), 0), 0);
        // Promise 8, "that aren't in a CRACK, or are FREE": not free, in a crack at the edge.
        due(cracked(motes(5), 5).stroke(0), 0);
        // Promise 8, "that aren't in a CRACK, or are FREE": free, in a crack.
        due(behind(cracked(dusts(SPARK, 0, 0), 0), 0), 4);
        // Promise 8, "that aren't in a CRACK, or are FREE": free, from a crack into the next one.
        due(behind(cracked(dusts(SPARK, 0, 0), 0, 1), 0), 1);
        // Promise 8, "that aren't in a CRACK, or are FREE": free, from a crack over the edge.
        due(cracked(dusts(SPARK, 0, 5), 5).stroke(0), 1);
        // Promise 8, "that aren't in a CRACK, or are FREE": a mote by frees 1.
        due(behind(ruled(cracked(motes(0), 0), "goes 3;frees 1;draws 0;"), 0), 3);
        // Promise 8, "that aren't in a CRACK, or are FREE": free, but it goes 0.
        due(behind(ruled(cracked(motes(5), 5), "goes 0;frees 1;draws 0;"), 0), 5);
        // Promise 8, "that aren't in a CRACK, or are FREE": a soot in an odd week is not.
        due(behind(inWeek(cracked(dusts(SOOT, 0, 0), 0), 1), 0), 0);
        // Promise 8, "that aren't in a CRACK, or are FREE": who is never free goes where no crack is.
        due(behind(forced(dusts(UNCLE, 0, 0), 2), 0), 1);
    }

    private static void toldAhead() {
        KinInTheHeap x;
        // Promise 8, "(all told ahead)": the shoe was not alone, though the mote ahead of it is gone.
        x = dusts(MOTE, 0, 0, SHOE, 0, 0);
        x.stroke(0);
        due(x.told(1, 4), 1);
        // Promise 8, "(all told ahead)": the shoe was alone, though a mote comes to it.
        x = forced(dusts(MOTE, 0, 0, SHOE, 0, 2), 2);
        x.stroke(0);
        due(x.told(1, 4), 2);
        // Promise 8, "(all told ahead)": the last of eight has eight kin as the first has.
        x = ruled(motes(0, 0, 0, 0, 0, 0, 0, 0), "goes kin-3;frees 0;draws 0;");
        x.stroke(0);
        due(x.told(5, 10), 255);
        // Promise 8, "(all told ahead)": whether one is free, too.
        x = ruled(cracked(motes(0, 0), 0), "goes 2;frees kin-1;draws 0;");
        x.stroke(0);
        due(x.told(2, 10), 3);
        // Promise 8, "as many as one GOES": told where it stood, not on the way.
        due(behind(ruled(motes(0), "goes 2-column;frees 0;draws 0;"), 0), 2);
    }

    private static void promise9() {
        KinInTheHeap x;
        // Promise 9, "STATE: WEEK is 999".
        due(inWeek(bare(), 999).week(), STATE);
        // Promise 9, "STATE: WEEK is 999": 998 isn't.
        due(inWeek(bare(), 998).week(), 0);
        // Promise 9, "WEEK is 1 more": 999 then.
        x = inWeek(bare(), 998);
        x.week();
        due(x.told(0, 0), 999);
        // Promise 9, "Refusals ..; they change nothing": the week is 999 still.
        x = inWeek(bare(), 999);
        x.week();
        due(x.told(0, 0), 999);
        // Promise 9, "Refusals ..; they change nothing": nobody goes by STATE.
        due(behindWeek(inWeek(drawing(motes(8), "1"), 999)), 8);
        // Promise 9, "WEEK is 1 more": on a bare floor, too.
        x = bare();
        x.week();
        due(x.count(2), 1);
        // Promise 9, "0 nowhere".
        due(behindWeek(drawing(motes(35), "0")), 35);
        // Promise 9, "1 a COLUMN more".
        due(behindWeek(drawing(motes(28), "1")), 29);
        // Promise 9, "1 a COLUMN more .. over the edge OUT": not into the next row.
        due(behindWeek(drawing(motes(29), "1")), NONE);
        // Promise 9, "2 a COLUMN less".
        due(behindWeek(drawing(motes(7), "2")), 6);
        // Promise 9, "2 a COLUMN less .. over the edge OUT": not into the row ahead.
        due(behindWeek(drawing(motes(6), "2")), NONE);
        // Promise 9, "3 a ROW more".
        due(behindWeek(drawing(motes(29), "3")), 35);
        // Promise 9, "3 a ROW more .. over the edge OUT".
        due(behindWeek(drawing(motes(30), "3")), NONE);
        // Promise 9, "4 a ROW less".
        due(behindWeek(drawing(motes(6), "4")), 0);
        // Promise 9, "4 a ROW less .. over the edge OUT".
        due(behindWeek(drawing(motes(5), "4")), NONE);
        // Promise 9, "1 a COLUMN more .. over the edge OUT": from each row.
        due(drawing(motes(5, 11, 17, 23, 29, 35), "1").week(), 6);
        // Promise 9, "2 a COLUMN less .. over the edge OUT": from each row.
        due(drawing(motes(0, 6, 12, 18, 24, 30), "2").week(), 6);
        // Promise 9, "3 a ROW more .. over the edge OUT": from each column.
        due(drawing(motes(30, 31, 32, 33, 34, 35), "3").week(), 6);
        // Promise 9, "4 a ROW less .. over the edge OUT": from each column.
        due(drawing(motes(0, 1, 2, 3, 4, 5), "4").week(), 6);
        // Promise 9, "v modulo 5, made 0 or more": -1 is a row less.
        due(behindWeek(drawing(motes(14), "-1")), 8);
        // Promise 9, "go one CELL": whatever one goes by a stroke.
        due(behindWeek(ruled(motes(0), "goes 9;frees 0;draws 1;")), 1);
    }

    private static void whoIsBlown() {
        KinInTheHeap x;
        // Promise 9, "all IN a CELL that aren't in a CRACK, or are FREE": not free, in a crack.
        due(behindWeek(cracked(drawing(motes(8), "1"), 8)), 8);
        // Promise 9, "all IN a CELL that aren't in a CRACK, or are FREE": free, in a crack.
        due(behindWeek(cracked(drawing(dusts(SPARK, 0, 8), "1"), 8)), 9);
        // Promise 9, "all IN a CELL that aren't in a CRACK, or are FREE": free, in a crack, over the edge.
        due(cracked(drawing(dusts(SPARK, 0, 5), "1"), 5).week(), 1);
        // Promise 9, "all IN a CELL that aren't in a CRACK": it comes into one.
        due(behindWeek(cracked(drawing(motes(8), "1"), 9)), 9);
        // Promise 9, "all IN a CELL that aren't in a CRACK": it came into one, and stays the week behind that.
        x = cracked(drawing(motes(8), "1"), 9);
        x.week();
        due(behindWeek(x), 9);
        // Promise 9, "all IN a CELL": not those who are out.
        due(behindWeek(drawing(motes(NONE), "1")), NONE);
        // Promise 9, "how many come to be OUT by it": not those who are out ahead.
        due(drawing(motes(NONE, 5, NONE), "1").week(), 1);
        // Promise 9, "how many come to be OUT by it": all eight.
        due(drawing(motes(5, 11, 17, 23, 29, 35, 5, 5), "1").week(), 8);
        // Promise 9, "how many come to be OUT by it": none.
        due(drawing(motes(4), "1").week(), 0);
        // Promise 9, "(all told ahead": both had a kin, though one goes ahead of the other.
        x = drawing(motes(8, 8), "kin-1");
        x.week();
        due(x.told(9, 10), 3);
        // Promise 9, "(all told ahead": one that is come to is alone still.
        x = drawing(motes(8, 9), "column-1");
        x.week();
        due(x.told(8, 10), 2);
        // Promise 9, "by the week a WAY": by the WEEK that ends, not by the next.
        due(behindWeek(inWeek(drawing(motes(8), "week"), 0)), 8);
        // Promise 9, "SOOT: as a SPARK, if WEEK is even": free by the WEEK that ends, 0.
        due(behindWeek(cracked(drawing(dusts(SOOT, 0, 8), "1"), 8)), 7);
        // Promise 9, "SOOT: as a SPARK, if WEEK is even, else not": not by the WEEK that ends, 1.
        due(behindWeek(inWeek(cracked(drawing(dusts(SOOT, 0, 8), "1"), 8), 1)), 8);
        // Promise 9, "CINDER: as a MOTE, if NUMBER is above 4, else nowhere": 4.
        due(behindWeek(drawing(dusts(CINDER, 4, 8), "1")), 8);
        // Promise 9, "CINDER: as a MOTE, if NUMBER is above 4": 5.
        due(behindWeek(drawing(dusts(CINDER, 5, 8), "1")), 9);
        // Promise 9, "UNCLE: nowhere".
        due(behindWeek(drawing(dusts(UNCLE, 9, 8), "1")), 8);
    }

    private static void promise10What() {
        // Promise 10, "how many come to be OUT by it (what 0)": none.
        due(row(motes(0), 0, BYTES, 0).sweep(0, 0), 0);
        // Promise 10, "how many come to be OUT by it (what 0)": not those who are out ahead.
        due(row(motes(NONE, 5, 4), 0, BYTES, 0).sweep(0, 0), 2);
        // Promise 10, "one behind the other": out by the second only.
        due(row(motes(0), 0, BYTES, 0, 0).sweep(0, 0), 1);
        // Promise 10, "one behind the other": by all of 40.
        due(row(forced(motes(0), 9), 0, BYTES, join(times(39, 23), 0)).sweep(0, 0), 1);
        // Promise 10, "twos TOGETHER then (1)": of eight.
        due(row(motes(0, 0, 0, 0, 0, 0, 0, 0), 0, BYTES, 0).sweep(0, 1), 28);
        // Promise 10, "twos TOGETHER then (1)": those who are out are none.
        due(row(motes(5, 5), 0, BYTES, 0).sweep(0, 1), 0);
        // Promise 10, "HEAPS then (2)": none, when all are out.
        due(row(motes(5, 4), 0, BYTES, 0).sweep(0, 2), 0);
        // Promise 10, "SPREAD then (3)": from the first cell to the last.
        due(row(motes(0, 35), 0, BYTES, 2).sweep(0, 3), 10);
        // Promise 10, "SPREAD then (3)": those who are out are no two.
        due(row(motes(5, 35), 0, BYTES, 0).sweep(0, 3), 0);
        // Promise 10, "where DUST what less 10 is then (10 ..": the first.
        due(row(motes(0), 0, BYTES, 0).sweep(0, 10), 3);
        // Promise 10, "where DUST what less 10 is then (10 ..": the last of eight.
        due(row(motes(0, 0, 0, 0, 0, 0, 0, 1), 0, BYTES, 0).sweep(0, 17), 4);
        // Promise 10, "where DUST what less 10 is then (10 ..": the last of eight as its KIND goes.
        due(row(dusts(0, 0, 9, 0, 0, 9, 0, 0, 9, 0, 0, 9, 0, 0, 9, 0, 0, 9, 0, 0, 9, SPARK, 0, 0), 0, BYTES, 0).sweep(0, 17), 4);
        // Promise 10, "where DUST what less 10 is then (10 ..": the last of eight as its NUMBER tells.
        due(row(forced(dusts(0, 0, 9, 0, 0, 9, 0, 0, 9, 0, 0, 9, 0, 0, 9, 0, 0, 9, 0, 0, 9, CINDER, 2, 0), 6), 0, BYTES, 0)
            .sweep(0, 17), 2);
        // Promise 10, "(10 ..; NONE)": out by it.
        due(row(motes(5), 0, BYTES, 0).sweep(0, 10), NONE);
        // Promise 10, "(10 ..; NONE)": out ahead.
        due(row(motes(NONE), 0, BYTES, 0).sweep(0, 10), NONE);
        // Promise 10, "BAD: .. what": below 0.
        due(row(motes(0), 0, BYTES, 0).sweep(0, -1), BAD);
        // Promise 10, "BAD: .. what": 4.
        due(row(motes(0), 0, BYTES, 0).sweep(0, 4), BAD);
        // Promise 10, "BAD: .. what": 9.
        due(row(motes(0), 0, BYTES, 0).sweep(0, 9), BAD);
        // Promise 10, "BAD: .. what": one behind the last of dust.
        due(row(motes(0), 0, BYTES, 0).sweep(0, 11), BAD);
        // Promise 10, "BAD: .. what": no dust at all.
        due(row(bare(), 0, BYTES, 0).sweep(0, 10), BAD);
        // Promise 10, "BAD: .. what": behind the last of eight.
        due(row(motes(0, 0, 0, 0, 0, 0, 0, 0), 0, BYTES, 0).sweep(0, 18), BAD);
        // Promise 10, "BAD: .. what": as great as can be.
        due(row(motes(0), 0, BYTES, 0).sweep(0, MAX), BAD);
        // Promise 10, "BAD: .. what": as small as can be.
        due(row(motes(0), 0, BYTES, 0).sweep(0, MIN), BAD);
    }

    private static int[] join(int[] all, int last) {
        int[] joined = java.util.Arrays.copyOf(all, all.length + 1);
        joined[all.length] = last;
        return joined;
    }

    private static void promise10Sheet() {
        KinInTheHeap x;
        // Promise 10, "BAD: SHEET": below 0.
        due(motes(0).sweep(-1, 0), BAD);
        // Promise 10, "BAD: SHEET": above 3.
        due(motes(0).sweep(4, 0), BAD);
        // Promise 10, "-11": a SHEET that is missing.
        due(motes(0).sweep(3, 0), MISSING);
        // Promise 10, "BAD: SHEET, what; -11": what ahead of -11.
        due(motes(0).sweep(3, 4), BAD);
        // Promise 10, "BAD: SHEET, what; -11": what ahead of -11, though it be one of dust that is not there.
        due(motes(0).sweep(3, 11), BAD);
        // Promise 10, "BAD: an item of it is no STROKE": -1.
        due(row(motes(0), 0, BYTES, -1).sweep(0, 0), BAD);
        // Promise 10, "BAD: an item of it is no STROKE": 24.
        due(row(motes(0), 0, BYTES, 24).sweep(0, 0), BAD);
        // Promise 10, "BAD: an item of it is no STROKE": 23 is one.
        due(row(motes(35), 0, BYTES, 23).sweep(0, 10), 17);
        // Promise 10, "BAD: an item of it is no STROKE": the last of 40.
        due(row(motes(0), 0, INTS, join(times(39, 2), 24)).sweep(0, 0), BAD);
        // Promise 10, "BAD: an item of it is no STROKE": an int of which the lowest 8 bits would be one.
        due(row(motes(0), 0, INTS, 256).sweep(0, 0), BAD);
        // Promise 10, "BAD: an item of it is no STROKE": of a byte the lowest 8 bits are one.
        due(row(motes(0), 0, BYTES, 256).sweep(0, 10), 3);
        // Promise 10, "BAD: an item of it is no STROKE": a short of which the lowest 16 bits are one.
        due(row(motes(0), 0, SHORTS, 65536).sweep(0, 10), 3);
        // Promise 10, "BAD: an item of it is no STROKE": on a bare floor, too.
        due(row(bare(), 0, BYTES, 24).sweep(0, 0), BAD);
        // Promise 10, "(an empty SHEET tells none)": nobody is out by it.
        due(row(motes(5), 0, BYTES).sweep(0, 0), 0);
        // Promise 10, "(an empty SHEET tells none)": all are where they were.
        due(row(motes(5), 0, INTS).sweep(0, 10), 5);
        // Promise 10, "(an empty SHEET tells none)": heaps as they are.
        due(row(motes(5, 6), 0, SHORTS).sweep(0, 2), 2);
        // Promise 10, "A SWEEPING, in thought": where one is truly.
        x = row(motes(5), 0, BYTES, 0);
        x.sweep(0, 0);
        due(x.told(0, 4), 5);
        // Promise 10, "A SWEEPING, in thought": once more with the same answer.
        x = row(motes(5), 0, BYTES, 0);
        x.sweep(0, 0);
        due(x.sweep(0, 0), 1);
    }

    private static void promise11() {
        KinInTheHeap x;
        // Promise 11, "It, truly: how many come to be OUT by it": together, by the first and by the last.
        due(row(motes(5, 0), 0, BYTES, 0, 0).sweeps(0), 2);
        // Promise 11, "It, truly": where one is then.
        x = row(motes(0), 0, BYTES, 0);
        x.sweeps(0);
        due(x.told(0, 4), 3);
        // Promise 11, "how many come to be OUT by it": not those who are out ahead.
        due(row(motes(NONE, 5), 0, BYTES, 0).sweeps(0), 1);
        // Promise 11, "BAD": no such SHEET, below 0.
        due(motes(0).sweeps(-1), BAD);
        // Promise 11, "BAD": no such SHEET, above 3.
        due(motes(0).sweeps(4), BAD);
        // Promise 11, "-11": missing.
        due(motes(0).sweeps(3), MISSING);
        // Promise 11, "BAD likewise": an item is no STROKE, 24.
        due(row(motes(0), 3, INTS, 24).sweeps(3), BAD);
        // Promise 11, "BAD likewise": an item is no STROKE, -1.
        due(row(motes(0), 3, INTS, -1).sweeps(3), BAD);
        // Promise 11, "BAD likewise": an item is no STROKE, the last of 40.
        due(row(motes(0), 3, SHORTS, join(times(39, 2), 24)).sweeps(3), BAD);
        // Promise 11, "Refusals ..; they change nothing": no stroke ahead of the wrong one is made.
        x = row(motes(0), 0, BYTES, 0, 24);
        x.sweeps(0);
        due(x.told(0, 4), 0);
        // Promise 11, "(an empty SHEET tells none)".
        due(row(motes(5), 0, BYTES).sweeps(0), 0);
        // Promise 11, "A SWEEPING: STROKES": no week goes by.
        x = row(motes(5), 0, BYTES, 0);
        x.sweeps(0);
        due(x.told(0, 0), 0);
    }

    private static void promise12() {
        for (int what = 0; what <= 4; what++) {
            // Promise 12, "HEAPS (what 0), GREATEST (1), TOGETHER (2), SPREAD (3), who is OUT (4)": on a bare floor.
            due(bare().floor(what), 0);
        }
        for (int what = 0; what <= 3; what++) {
            // Promise 12, "HEAPS: how many CELLS have anybody IN" and the rest: all are out, nobody is IN a CELL.
            due(motes(NONE, NONE).floor(what), 0);
        }
        // Promise 12, "who is OUT (4; bits)": all eight.
        due(motes(NONE, NONE, NONE, NONE, NONE, NONE, NONE, NONE).floor(4), 255);
        // Promise 12, "who is OUT (4; bits)": nobody of some.
        due(motes(0, 35).floor(4), 0);
        // Promise 12, "HEAPS": all eight in one cell.
        due(motes(35, 35, 35, 35, 35, 35, 35, 35).floor(0), 1);
        // Promise 12, "HEAPS": each of eight in another.
        due(motes(0, 1, 2, 3, 32, 33, 34, 35).floor(0), 8);
        // Promise 12, "GREATEST: how many are IN the CELL that has most": one alone, the others are out.
        due(motes(3, NONE, NONE).floor(1), 1);
        // Promise 12, "GREATEST: how many are IN the CELL that has most": one each.
        due(motes(0, 1, 2).floor(1), 1);
        // Promise 12, "GREATEST": all eight.
        due(motes(0, 0, 0, 0, 0, 0, 0, 0).floor(1), 8);
        // Promise 12, "GREATEST": more are out than are in any cell.
        due(motes(NONE, NONE, 3).floor(1), 1);
        // Promise 12, "TOGETHER: how many twos of DUST are IN one CELL": one alone.
        due(motes(0).floor(2), 0);
        // Promise 12, "TOGETHER": of eight, 28.
        due(motes(0, 0, 0, 0, 0, 0, 0, 0).floor(2), 28);
        // Promise 12, "TOGETHER": not those who are out.
        due(motes(NONE, NONE, 3, 3).floor(2), 1);
        // Promise 12, "SPREAD .. by how many columns and rows these are apart": as far as can be.
        due(motes(0, 35).floor(3), 10);
        // Promise 12, "SPREAD": in one cell.
        due(motes(35, 35).floor(3), 0);
        // Promise 12, "SPREAD": the last cell of a row, the first one of the next: 5 columns, 1 row.
        due(motes(5, 6).floor(3), 6);
        // Promise 12, "SPREAD": the first row's last cell, the last row's first one.
        due(motes(5, 30).floor(3), 10);
        // Promise 12, "SPREAD": the other way round, 5 columns, 1 row.
        due(motes(6, 5).floor(3), 6);
        // Promise 12, "SPREAD": the other way round, 5 columns, 5 rows.
        due(motes(30, 5).floor(3), 10);
        // Promise 12, "of all twos IN CELLS": not with those who are out.
        due(motes(0, NONE, 35).floor(3), 10);
        // Promise 12, "SPREAD": four in the first cell, four in the last: 16 twos.
        due(motes(0, 0, 0, 0, 35, 35, 35, 35).floor(3), 160);
        // Promise 12, "BAD": below 0.
        due(bare().floor(-1), BAD);
        // Promise 12, "BAD": 5.
        due(bare().floor(5), BAD);
        // Promise 12, "BAD": as great as can be.
        due(bare().floor(MAX), BAD);
        // Promise 12, "BAD": as small as can be.
        due(bare().floor(MIN), BAD);
    }

    private static void promise13() {
        KinInTheHeap x;
        // Promise 13, "CELLS (bits) with anybody IN (what 0)": nobody.
        due(motes(NONE).where(0), 0);
        // Promise 13, "Many CELLS are told as a long: bit c for CELL c": the first and the last.
        due(motes(0, 35).where(0), 1L << 35 | 1);
        // Promise 13, "Many CELLS are told as a long": those above 31.
        due(motes(31, 32).where(0), 1L << 31 | 1L << 32);
        // Promise 13, "with CRACKS (1)": none.
        due(motes(1).where(1), 0);
        // Promise 13, "with CRACKS (1)": the first and the last.
        due(cracked(bare(), 0, 35).where(1), 1L << 35 | 1);
        // Promise 13, "to which one of DUST would come by the STROKES 0 .. 23": its own, where others don't move it.
        due(forced(motes(35), 0).where(10), 1L << 35);
        // Promise 13, "by the STROKES 0 .. 23": from cell 5 by 1 to 2, by 22 to 23, by 0 and 23 out.
        due(motes(5).where(10), 1L << 2 | 1L << 5 | 1L << 23);
        // Promise 13, "by the STROKES 0 .. 23": from cell 0 by 0 to 3, by 12 to 18, by 1 and 13 out.
        due(motes(0).where(10), 1L | 1L << 3 | 1L << 18);
        // Promise 13, "by the STROKES 0 .. 23": from cell 35 by 11 to 32, by 23 to 17, by 10 and 22 out.
        due(motes(35).where(10), 1L << 35 | 1L << 32 | 1L << 17);
        // Promise 13, "(10 ..; OUT: not told)": it would be out by every stroke that moves it.
        due(forced(motes(14), 9).where(10), 1L << 14);
        // Promise 13, "(10 ..; OUT: not told)": it is out.
        due(motes(NONE).where(10), 0);
        // Promise 13, "each by itself": not one behind the other.
        due(forced(motes(14), 1).where(10), 1L << 8 | 1L << 13 | 1L << 14 | 1L << 15 | 1L << 20);
        // Promise 13, "each by itself": from a crack that it doesn't come out of.
        due(cracked(motes(14), 14).where(10), 1L << 14);
        // Promise 13, "who is what less 10": the last of eight.
        due(forced(motes(0, 0, 0, 0, 0, 0, 0, 35), 0).where(17), 1L << 35);
        // Promise 13, "NO": what below 0.
        due(motes(0).where(-1), NO);
        // Promise 13, "NO": 2.
        due(motes(0).where(2), NO);
        // Promise 13, "NO": 9.
        due(motes(0).where(9), NO);
        // Promise 13, "NO": no dust at all.
        due(bare().where(10), NO);
        // Promise 13, "NO": one behind the last of dust.
        due(motes(0).where(11), NO);
        // Promise 13, "NO": behind the last of eight.
        due(motes(0, 0, 0, 0, 0, 0, 0, 0).where(18), NO);
        // Promise 13, "NO": as great as can be.
        due(motes(0).where(MAX), NO);
        // Promise 13, "NO": as small as can be.
        due(motes(0).where(MIN), NO);
        // Promise 13, "would come": in thought.
        x = motes(14);
        x.where(10);
        due(x.told(0, 4), 14);
    }

    public static void main(String[] args) {
        whichStroke();
        whichLine();
        overTheEdge();
        cracksOnTheWay();
        toldAhead();
        promise9();
        whoIsBlown();
        promise10What();
        promise10Sheet();
        promise11();
        promise12();
        promise13();
        end();
    }
}
