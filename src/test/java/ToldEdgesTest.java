/**
 * Boundary cases of going that was told, of what is drawn, of the image and the counts (promises 19 to 26); a test each.
 * The remark ahead of a test tells the promise, the sentence of the document, and the case.
 */
public final class ToldEdgesTest extends Edges {
    private static final long ALL_CELLS = 68719476735L;

    private static KinInTheHeap going(KinInTheHeap x, String e) {
        return ruled(x, "goes " + e + ";frees 0;draws 0;");
    }

    private static void otherwise() {
        // Promise 19, "the first that is otherwise; NONE": all ten are so.
        due(row(motes(0), 0, BYTES, 0, 1, 2, 3, 4, 5, 6, 7, 8, 9).tells(0, 0, 0), NONE);
        // Promise 19, "the first that is otherwise": the tenth, by FORCE 9.
        due(row(motes(0), 0, BYTES, 0, 1, 2, 3, 4, 5, 6, 7, 8, 8).tells(0, 0, 0), 9);
        // Promise 19, "the first that is otherwise": the first of all, by FORCE 0.
        due(row(motes(0), 0, BYTES, 1, 1, 2).tells(0, 0, 0), 0);
        // Promise 19, "the first that is otherwise": of two.
        due(row(motes(0), 0, BYTES, 0, 1, 3, 4).tells(0, 0, 0), 2);
        // Promise 19, "how far one .. GOES": -1 is always otherwise.
        due(row(motes(0), 0, INTS, -1).tells(0, 0, 0), 0);
        // Promise 19, "how far one .. GOES": 10 is always otherwise, for 9 is the bound.
        due(row(going(motes(0), "10"), 0, INTS, 10).tells(0, 0, 0), 0);
        // Promise 19, "how far one .. GOES": the bound 9.
        due(row(going(motes(0), "10"), 0, INTS, 9).tells(0, 0, 0), NONE);
        // Promise 19, "by FORCE 0, 1, ..": whatever the FORCE is truly.
        due(row(forced(motes(0), 9), 0, BYTES, 0, 1).tells(0, 0, 0), NONE);
        // Promise 19, "one, IN its CELL": with its KIN.
        due(row(dusts(SHOE, 0, 0, MOTE, 0, 0), 0, BYTES, 0, 0, 1).tells(0, 0, 0), NONE);
        // Promise 19, "one, IN its CELL": without any.
        due(row(dusts(SHOE, 0, 0, MOTE, 0, 1), 0, BYTES, 0, 0, 1).tells(0, 0, 0), 2);
        // Promise 19, "a SHEET tells": an empty one, nothing is otherwise.
        due(row(motes(0), 0, BYTES).tells(0, 0, 0), NONE);
        // Promise 19, "CINDER: NUMBER, if FORCE is above 5": by FORCE 6 first.
        due(row(dusts(CINDER, 9, 0), 0, BYTES, 0, 0, 0, 0, 0, 0, 0).tells(0, 0, 0), 6);
        // Promise 19, "TOLD": in thought, the FORCE.
        KinInTheHeap x = row(motes(0), 0, BYTES, 0, 1, 2, 3, 4, 5, 6, 7, 8, 9);
        x.tells(0, 0, 0);
        due(x.told(0, 1), 3);
    }

    private static void kindsAndNumbers() {
        KinInTheHeap x;
        // Promise 19, "KINDS (bits 0 .. 5)": an empty SHEET, all.
        due(row(motes(0), 0, BYTES).tells(0, 0, 1), 63);
        // Promise 19, "KINDS (bits 0 .. 5)": none.
        due(row(motes(0), 0, BYTES, 9).tells(0, 0, 1), 0);
        // Promise 19, "KINDS (bits 0 .. 5)": bit 0 alone.
        due(row(dusts(SOOT, 1, 0), 0, BYTES, 0, 1).tells(0, 0, 1), 1);
        // Promise 19, "KINDS (bits 0 .. 5)": bit 5 alone, by its number and FORCE 6.
        due(row(dusts(MOTE, 9, 0), 0, BYTES, 0, 0, 0, 0, 0, 0, 9).tells(0, 0, 1), 1 << CINDER);
        // Promise 19, "KINDS": a shoe, if it is alone, as it stands.
        due(row(motes(0), 0, BYTES, 0, 0, 0).tells(0, 0, 1), 1 << SHOE | 1 << CINDER);
        // Promise 19, "KINDS": a shoe, if it is not alone, as it stands.
        due(row(motes(0, 0), 0, BYTES, 0, 0, 1).tells(0, 0, 1), 1 << UNCLE | 1 << SHOE);
        // Promise 19, "KINDS .. it could be": in thought.
        x = row(motes(0), 0, BYTES);
        x.tells(0, 0, 1);
        due(x.told(0, 5), MOTE);
        // Promise 19, "NUMBERS (bits 0 .. 9)": an empty SHEET, all.
        due(row(motes(0), 0, BYTES).tells(0, 0, 2), 1023);
        // Promise 19, "NUMBERS (bits 0 .. 9)": those of one that the number is nothing to.
        due(row(motes(0), 0, BYTES, 0, 1).tells(0, 0, 2), 1023);
        // Promise 19, "NUMBERS (bits 0 .. 9)": none.
        due(row(motes(0), 0, BYTES, 1).tells(0, 0, 2), 0);
        // Promise 19, "NUMBERS (bits 0 .. 9)": bit 0 alone.
        due(row(dusts(CINDER, 5, 0), 0, BYTES, 0, 0, 0, 0, 0, 0, 0).tells(0, 0, 2), 1);
        // Promise 19, "NUMBERS (bits 0 .. 9)": bit 9 alone.
        due(row(dusts(CINDER, 5, 0), 0, BYTES, 0, 0, 0, 0, 0, 0, 9).tells(0, 0, 2), 512);
        // Promise 19, "NUMBERS": in thought.
        x = row(dusts(CINDER, 5, 0), 0, BYTES);
        x.tells(0, 0, 2);
        due(x.told(0, 3), 5);
    }

    private static void weeks() {
        KinInTheHeap x;
        // Promise 19, "WEEKS (of 0 .. 99: how many": all.
        due(row(motes(0), 0, BYTES).tells(0, 0, 3), 100);
        // Promise 19, "WEEKS (.. the least)": of all.
        due(row(motes(0), 0, BYTES).tells(0, 0, 4), 0);
        // Promise 19, "WEEKS (of 0 .. 99: how many": 0 alone.
        due(row(going(motes(0), "week"), 0, BYTES, 0).tells(0, 0, 3), 1);
        // Promise 19, "WEEKS (.. the least)": 0 alone.
        due(row(going(motes(0), "week"), 0, BYTES, 0).tells(0, 0, 4), 0);
        // Promise 19, "WEEKS (of 0 .. 99: how many": 9 .. 99 by the bound 9.
        due(row(going(motes(0), "week"), 0, BYTES, 9).tells(0, 0, 3), 91);
        // Promise 19, "WEEKS (.. the least)": 9.
        due(row(going(motes(0), "week"), 0, BYTES, 9).tells(0, 0, 4), 9);
        // Promise 19, "WEEKS (of 0 .. 99: how many": 99 alone.
        due(row(going(motes(0), "week-90"), 0, BYTES, 9).tells(0, 0, 3), 1);
        // Promise 19, "WEEKS (.. the least)": 99.
        due(row(going(motes(0), "week-90"), 0, BYTES, 9).tells(0, 0, 4), 99);
        // Promise 19, "WEEKS (of 0 .. 99: how many": 100 is none of them, though it is WEEK truly.
        due(row(inWeek(going(motes(0), "week-91"), 100), 0, BYTES, 9).tells(0, 0, 3), 0);
        // Promise 19, "the least (4; NONE)": 100 is none of them, though it is WEEK truly.
        due(row(inWeek(going(motes(0), "week-91"), 100), 0, BYTES, 9).tells(0, 0, 4), NONE);
        // Promise 19, "the least (4; NONE)": none of them.
        due(row(motes(0), 0, BYTES, 1).tells(0, 0, 4), NONE);
        // Promise 19, "WEEKS": in thought.
        x = row(inWeek(motes(0), 7), 0, BYTES);
        x.tells(0, 0, 3);
        due(x.told(0, 0), 7);
    }

    private static void textsAndDust() {
        KinInTheHeap x;
        // Promise 19, "TEXTS (bits)": those that are there, TEXT 0 alone.
        due(row(motes(0), 0, BYTES).tells(0, 0, 5), 1);
        // Promise 19, "TEXTS (bits)": all six.
        x = motes(0);
        for (int i = 1; i <= 5; i++) {
            fed(x, "goes force;frees 0;draws 0;").text();
        }
        due(row(x, 0, BYTES, 0, 1).tells(0, 0, 5), 63);
        // Promise 19, "TEXTS (bits)": none.
        due(row(motes(0), 0, BYTES, 1).tells(0, 0, 5), 0);
        // Promise 19, "TEXTS (bits)": THE TAPE is none till it was read.
        due(row(fed(motes(0), "goes force+1;frees 0;draws 0;"), 0, BYTES, 1).tells(0, 0, 5), 0);
        // Promise 19, "TEXTS (bits), were they THE RULE": one that was read, though it is not THE RULE.
        x = fed(motes(0), "goes force+1;frees 0;draws 0;");
        x.text();
        due(row(x, 0, BYTES, 1, 2).tells(0, 0, 5), 2);
        // Promise 19, "TEXTS": in thought.
        x = going(motes(0), "0");
        row(x, 0, BYTES).tells(0, 0, 5);
        due(x.count(5), 1);
        // Promise 19, "DUST (bits) of which it is so": all eight.
        due(row(motes(0, 0, 0, 0, 0, 0, 0, 0), 0, BYTES, 0, 1).tells(0, 7, 6), 255);
        // Promise 19, "DUST (bits) of which it is so (none that is OUT)".
        due(row(motes(0, NONE, 0), 0, BYTES).tells(0, 0, 6), 5);
        // Promise 19, "DUST (bits) of which it is so": of none.
        due(row(motes(0, 1), 0, BYTES, 9).tells(0, 0, 6), 0);
        // Promise 19, "DUST (bits) of which it is so": not of the one that is asked, but of another.
        due(row(dusts(MOTE, 0, 0, SPARK, 0, 1), 0, BYTES, 1).tells(0, 0, 6), 2);
    }

    private static void tellsBad() {
        // Promise 19, "(10 at most)": ten are told.
        due(row(dusts(SHOE, 0, 0), 0, BYTES, times(10, 0)).tells(0, 0, 0), NONE);
        // Promise 19, "BAD: it tells more than 10": eleven.
        due(row(dusts(SHOE, 0, 0), 0, BYTES, times(11, 0)).tells(0, 0, 0), BAD);
        // Promise 19, "BAD: it tells more than 10": forty.
        due(row(dusts(SHOE, 0, 0), 0, BYTES, times(40, 0)).tells(0, 0, 6), BAD);
        // Promise 19, "BAD: SHEET": below 0.
        due(motes(0).tells(-1, 0, 0), BAD);
        // Promise 19, "BAD: SHEET": above 3.
        due(motes(0).tells(4, 0, 0), BAD);
        // Promise 19, "BAD: .. none such": no dust at all.
        due(row(bare(), 0, BYTES).tells(0, 0, 0), BAD);
        // Promise 19, "BAD: .. none such": one behind the last.
        due(row(motes(0), 0, BYTES).tells(0, 1, 0), BAD);
        // Promise 19, "BAD: .. none such": one ahead of the first.
        due(row(motes(0), 0, BYTES).tells(0, -1, 0), BAD);
        // Promise 19, "BAD: .. none such": behind the last of eight.
        due(row(motes(0, 0, 0, 0, 0, 0, 0, 0), 0, BYTES).tells(0, 8, 0), BAD);
        // Promise 19, "BAD: .. OUT".
        due(row(motes(NONE, 0), 0, BYTES).tells(0, 0, 0), BAD);
        // Promise 19, "BAD: .. OUT": though another one is asked for by what 6.
        due(row(motes(NONE, 0), 0, BYTES).tells(0, 0, 6), BAD);
        // Promise 19, "BAD: .. what": below 0.
        due(row(motes(0), 0, BYTES).tells(0, 0, -1), BAD);
        // Promise 19, "BAD: .. what": 7.
        due(row(motes(0), 0, BYTES).tells(0, 0, 7), BAD);
        // Promise 19, "BAD: .. what": as great as can be.
        due(row(motes(0), 0, BYTES).tells(0, 0, MAX), BAD);
        // Promise 19, "-11": a SHEET that is missing.
        due(motes(0).tells(3, 0, 0), MISSING);
        // Promise 19, "BAD: SHEET, none such, OUT, what; -11": what ahead of -11.
        due(motes(0).tells(3, 0, 7), BAD);
        // Promise 19, "BAD: SHEET, none such, OUT, what; -11": none such ahead of -11.
        due(motes(0).tells(3, 1, 0), BAD);
        // Promise 19, "BAD: SHEET, none such, OUT, what; -11": OUT ahead of -11.
        due(motes(NONE).tells(3, 0, 0), BAD);
    }

    private static void promise20() {
        KinInTheHeap x;
        // Promise 20, "CELLS": an empty SHEET, all thirty six.
        due(row(motes(0), 0, BYTES).places(0, 0), ALL_CELLS);
        // Promise 20, "CELLS": none.
        due(row(motes(0), 0, BYTES, 1).places(0, 0), 0);
        // Promise 20, "bit c for CELL c": the last alone.
        due(row(going(motes(0), "(row=5)*(column=5)"), 0, BYTES, 1).places(0, 0), 1L << 35);
        // Promise 20, "bit c for CELL c": the first alone.
        due(row(going(motes(35), "(row=0)*(column=0)"), 0, BYTES, 1).places(0, 0), 1);
        // Promise 20, "CELLS .. IN which it could be now": the others are where they are.
        due(row(going(motes(0, 35), "kin"), 0, BYTES, 2).places(0, 0), 1L << 35);
        // Promise 20, "CELLS .. IN which it could be now": it is once only, its own cell is as others.
        due(row(going(motes(0, 35), "kin"), 0, BYTES, 1).places(0, 0), ALL_CELLS >> 1);
        // Promise 20, "CELLS .. IN which it could be now": those who are out are no kin in any cell.
        due(row(going(motes(0, NONE), "kin"), 0, BYTES, 2).places(0, 0), 0);
        // Promise 20, "CELLS .. IN which it could be now": those with a crack, too.
        due(row(cracked(motes(0), 0, 35), 0, BYTES, 0).places(0, 0), ALL_CELLS);
        // Promise 20, "(10 at most)": ten are told.
        due(row(motes(3), 0, BYTES, 0, 1, 2, 3, 4, 5, 6, 7, 8, 9).places(0, 0), ALL_CELLS);
        // Promise 20, "TOLD of one: CELLS": in thought.
        x = row(motes(3), 0, BYTES);
        x.places(0, 0);
        due(x.told(0, 4), 3);
        // Promise 20, "TOLD of one: CELLS": in thought, the FORCE.
        x = row(motes(3), 0, BYTES, 0);
        x.places(0, 0);
        due(x.told(0, 1), 3);
        // Promise 20, "NO: all that tells() refuses": it tells more than 10.
        due(row(dusts(SHOE, 0, 0), 0, BYTES, times(11, 0)).places(0, 0), NO);
        // Promise 20, "NO: all that tells() refuses": a SHEET that is missing.
        due(motes(0).places(3, 0), NO);
        // Promise 20, "NO: all that tells() refuses": a SHEET below 0.
        due(motes(0).places(-1, 0), NO);
        // Promise 20, "NO: all that tells() refuses": a SHEET above 3.
        due(motes(0).places(4, 0), NO);
        // Promise 20, "NO: all that tells() refuses": no dust at all.
        due(row(bare(), 0, BYTES).places(0, 0), NO);
        // Promise 20, "NO: all that tells() refuses": one behind the last.
        due(row(motes(0), 0, BYTES).places(0, 1), NO);
        // Promise 20, "NO: all that tells() refuses": one ahead of the first.
        due(row(motes(0), 0, BYTES).places(0, -1), NO);
        // Promise 20, "NO: all that tells() refuses": OUT.
        due(row(motes(NONE), 0, BYTES).places(0, 0), NO);
    }

    private static int filmed(int kind, int number) {
        return dusts(kind, number, 14).film(0, 0);
    }

    private static void promise21() {
        KinInTheHeap x;
        // Promise 21, "how far one GOES by FORCE 0 .. 9 (bytes): all, together": a mote.
        due(filmed(MOTE, 0), 45);
        // Promise 21, "all, together": an uncle, each half is cut.
        due(filmed(UNCLE, 0), 20);
        // Promise 21, "all, together": a spark, 9 twice by the bound.
        due(filmed(SPARK, 0), 54);
        // Promise 21, "all, together": a shoe alone goes nowhere.
        due(filmed(SHOE, 9), 0);
        // Promise 21, "all, together": a soot, 9 six times by the bound.
        due(filmed(SOOT, 0), 74);
        // Promise 21, "all, together": a cinder, by FORCE 6 .. 9.
        due(filmed(CINDER, 9), 36);
        // Promise 21, "all, together": as many as can be.
        due(going(motes(0), "9").film(0, 0), 90);
        // Promise 21, "A SHEET truly becomes": one that was missing tells it.
        x = motes(0);
        x.film(3, 0);
        due(x.tells(3, 0, 0), NONE);
        // Promise 21, "FORCE 0 .. 9": the tenth item is there.
        x = motes(0);
        x.film(0, 0);
        due(x.cell(0, 9, 9), 1);
        // Promise 21, "FORCE 0 .. 9": no eleventh, though the SHEET had forty.
        x = row(motes(0), 0, INTS, times(40, 1));
        x.film(0, 0);
        due(x.cell(0, 10, 0), OUTSIDE);
        // Promise 21, "(bytes)": it is of sort 0 then.
        x = row(motes(0), 0, INTS, times(40, 1));
        x.film(0, 0);
        due(x.heap(0, BYTES, 0, 0), 0);
        // Promise 21, "FORCE 0 .. 9": FORCE is as it was.
        x = motes(0);
        x.film(0, 0);
        due(x.told(0, 1), 3);
        // Promise 21, "BAD: SHEET": below 0.
        due(motes(0).film(-1, 0), BAD);
        // Promise 21, "BAD: SHEET": above 3.
        due(motes(0).film(4, 0), BAD);
        // Promise 21, "BAD: .. none such": no dust at all.
        due(bare().film(0, 0), BAD);
        // Promise 21, "BAD: .. none such": one behind the last.
        due(motes(0).film(0, 1), BAD);
        // Promise 21, "BAD: .. none such": one ahead of the first.
        due(motes(0).film(0, -1), BAD);
        // Promise 21, "BAD: .. OUT".
        due(motes(NONE).film(0, 0), BAD);
        // Promise 21, "Refusals ..; they change nothing": the SHEET is missing still.
        x = motes(NONE);
        x.film(0, 0);
        due(x.cell(0, 0, 0), MISSING);
    }

    private static void promise22() {
        KinInTheHeap x;
        // Promise 22, "n STROKES (0 .. 40)": none.
        due(motes(5).drawn(0, 0), 0);
        // Promise 22, "how many are OUT then": those who are out ahead, by no stroke.
        due(motes(5, NONE, NONE).drawn(0, 0), 2);
        // Promise 22, "how many are OUT then": all eight.
        due(motes(5, 5, 5, 5, 5, 5, 5, NONE).drawn(0, 1), 8);
        // Promise 22, "n STROKES (0 .. 40)": of seed 8245 the fortieth is the first along row 0 or column 0.
        due(forced(motes(0), 9).drawn(8245, 40), 1);
        // Promise 22, "n STROKES (0 .. 40)": the thirty ninth isn't.
        due(forced(motes(0), 9).drawn(8245, 39), 0);
        // Promise 22, "n STROKES (0 .. 40)": of seed 17463 the forty first is the first one that is, which isn't drawn.
        due(forced(motes(0), 9).drawn(17463, 40), 0);
        // Promise 22, "z being z * 1103515245 + 12345 (.. SEED at first)": seed 0, z is 12345, STROKE 0.
        due(motes(5).drawn(0, 1), 1);
        // Promise 22, "(.. SEED at first) anew for each": seed 1, by SEED itself STROKE 0, by the first z STROKE 7.
        due(motes(18).drawn(1, 1), 1);
        // Promise 22, "(.. SEED at first) anew for each": seed 1, not STROKE 0.
        due(motes(5).drawn(1, 1), 0);
        // Promise 22, "(z >>> 9) % 24 .. (an int": seed 2, z is -2087924461, STROKE 14.
        due(motes(31).drawn(2, 1), 1);
        // Promise 22, "(an int; SEED at first)": the least int, STROKE 16.
        due(motes(32).drawn(MIN, 1), 1);
        // Promise 22, "(an int; SEED at first)": the greatest int, STROKE 8.
        due(motes(29).drawn(MAX, 1), 1);
        // Promise 22, "(an int; SEED at first)": -1, STROKE 0.
        due(motes(5).drawn(-1, 1), 1);
        // Promise 22, "anew for each": the second of seed 0 is STROKE 3.
        due(motes(6).drawn(0, 2), 1);
        // Promise 22, "BAD: n": below 0.
        due(motes(5).drawn(0, -1), BAD);
        // Promise 22, "BAD: n": above 40.
        due(motes(5).drawn(0, 41), BAD);
        // Promise 22, "BAD: n": as great as can be.
        due(motes(5).drawn(0, MAX), BAD);
        // Promise 22, "BAD: n": as small as can be.
        due(motes(5).drawn(0, MIN), BAD);
        // Promise 22, "BAD: n": on a bare floor, too.
        due(bare().drawn(0, 41), BAD);
        // Promise 22, "DRAWN": on a bare floor nobody is out.
        due(bare().drawn(0, 40), 0);
        // Promise 22, "DRAWN": in thought.
        x = motes(5);
        x.drawn(0, 1);
        due(x.told(0, 4), 5);
    }

    private static void promise23() {
        KinInTheHeap x;
        // Promise 23, "6 STROKES": of seed 22 the sixth is the first along row 0 or column 0.
        due(forced(motes(0), 9).chance(22, 1, 0, 0), 0);
        // Promise 23, "6 STROKES": of seed 7 the seventh, which isn't drawn.
        due(forced(motes(0), 9).chance(7, 1, 0, 0), 1);
        // Promise 23, "IN m seeds (1 .. 20)": of 3047 and on the twentieth alone, above the line.
        due(forced(motes(0), 9).chance(3047, 20, 0, 0), 1);
        // Promise 23, "IN m seeds (1 .. 20)": of 3047 and on the twentieth alone, below the line.
        due(forced(motes(0), 9).chance(3047, 20, 0, 1), 20);
        // Promise 23, "in lowest terms": of 3047 and on none of nineteen, below the line.
        due(forced(motes(0), 9).chance(3047, 19, 0, 1), 1);
        // Promise 23, "IN m seeds (1 .. 20)": of 3046 and on none of twenty.
        due(forced(motes(0), 9).chance(3046, 20, 0, 0), 0);
        // Promise 23, "in lowest terms": none of twenty, below the line.
        due(forced(motes(0), 9).chance(3046, 20, 0, 1), 1);
        // Promise 23, "in lowest terms": all of twenty, above the line.
        due(motes(0).chance(0, 20, 8, 0), 1);
        // Promise 23, "in lowest terms": all of twenty, below the line.
        due(motes(0).chance(0, 20, 8, 1), 1);
        // Promise 23, "in lowest terms": 5 of 10 from seed 0 on, above the line.
        due(forced(motes(0), 9).chance(0, 10, 0, 0), 1);
        // Promise 23, "in lowest terms": 5 of 10 from seed 0 on, below the line.
        due(forced(motes(0), 9).chance(0, 10, 0, 1), 2);
        // Promise 23, "SEED and each 1 more (an int)": behind the greatest int comes the least, of which it is out.
        due(forced(motes(2), 9).chance(MAX, 2, 0, 1), 2);
        // Promise 23, "SEED and each 1 more (an int)": behind the greatest int comes the least, above the line.
        due(forced(motes(2), 9).chance(MAX, 2, 0, 0), 1);
        // Promise 23, "by which that is k (0 .. 8) or fewer": 8 are 8 or fewer.
        due(forced(motes(0, 0, 0, 0, 0, 0, 0, 0), 9).chance(22, 1, 8, 0), 1);
        // Promise 23, "by which that is k (0 .. 8) or fewer": 8 are not 7 or fewer.
        due(forced(motes(0, 0, 0, 0, 0, 0, 0, 0), 9).chance(22, 1, 7, 0), 0);
        // Promise 23, "by which that is k .. or fewer": those who are out ahead, too.
        due(forced(motes(NONE, 0), 9).chance(7, 1, 0, 0), 0);
        // Promise 23, "by which that is k .. or fewer": those who are out ahead, and none more.
        due(forced(motes(NONE, 0), 9).chance(7, 1, 1, 0), 1);
        // Promise 23, "IN m seeds": on a bare floor by all.
        due(bare().chance(0, 20, 0, 0), 1);
        // Promise 23, "IN m seeds": in thought.
        x = forced(motes(0), 9);
        x.chance(22, 1, 0, 0);
        due(x.told(0, 4), 0);
    }

    private static void promise23No() {
        // Promise 23, "NO: m": 0.
        due(motes(0).chance(0, 0, 0, 0), NO);
        // Promise 23, "NO: m": 21.
        due(motes(0).chance(0, 21, 0, 0), NO);
        // Promise 23, "NO: m": below 0.
        due(motes(0).chance(0, -1, 0, 0), NO);
        // Promise 23, "NO: m": as great as can be.
        due(motes(0).chance(0, MAX, 0, 0), NO);
        // Promise 23, "NO: .. k": below 0.
        due(motes(0).chance(0, 1, -1, 0), NO);
        // Promise 23, "NO: .. k": 9.
        due(motes(0).chance(0, 1, 9, 0), NO);
        // Promise 23, "NO: .. part": below 0.
        due(motes(0).chance(0, 1, 0, -1), NO);
        // Promise 23, "NO: .. part": 2.
        due(motes(0).chance(0, 1, 0, 2), NO);
    }

    private static void promise24() {
        KinInTheHeap x;
        // Promise 24, "AN IMAGE is kept: how many of DUST": none.
        due(bare().image(), 0);
        // Promise 24, "how many of DUST": all eight, those who are out, too.
        due(motes(0, 0, 0, 0, 0, 0, 0, NONE).image(), 8);
        // Promise 24, "AN IMAGE is kept": it takes the place of the one that was.
        x = motes(0);
        x.image();
        x.set(4, 0, 9);
        x.image();
        x.back();
        due(x.told(0, 4), 9);
    }

    private static KinInTheHeap changed(KinInTheHeap x) {
        x.image();
        x.set(0, 0, 999);
        x.set(1, 0, 9);
        x.set(2, 0, 0);
        x.set(2, 35, 1);
        x.set(3, 0, 9);
        x.set(4, 0, 9);
        x.set(4, 1, 9);
        ruled(x, "goes 0;frees 0;draws 0;");
        x.dust(MOTE, 0, 0);
        x.feed(103);
        row(x, 0, BYTES, 2);
        return x;
    }

    private static KinInTheHeap laidBack() {
        KinInTheHeap x = changed(cracked(motes(35, NONE), 0));
        x.back();
        return x;
    }

    private static void promise25() {
        KinInTheHeap x;
        // Promise 25, "STATE: there is none".
        due(motes(0).back(), STATE);
        // Promise 25, "Refusals ..; they change nothing": by STATE.
        x = motes(35);
        x.back();
        due(x.told(0, 4), 35);
        // Promise 25, "All that it keeps is as in THE IMAGE: how many of DUST".
        due(changed(cracked(motes(35, NONE), 0)).back(), 2);
        // Promise 25, "how many of DUST": a bare one.
        x = bare();
        x.image();
        x.dust(MOTE, 0, 0);
        due(x.back(), 0);
        // Promise 25, "AN IMAGE keeps CRACKS".
        due(laidBack().where(1), 1);
        // Promise 25, "AN IMAGE keeps .. WEEK".
        due(laidBack().told(0, 0), 0);
        // Promise 25, "AN IMAGE keeps .. FORCE".
        due(laidBack().told(0, 1), 3);
        // Promise 25, "AN IMAGE keeps .. NUMBERS".
        due(laidBack().told(0, 3), 0);
        // Promise 25, "AN IMAGE keeps .. NUMBERS": that of the last of eight.
        x = motes(0, 0, 0, 0, 0, 0, 0, 0);
        x.image();
        x.set(3, 7, 9);
        x.back();
        due(x.told(7, 3), 0);
        // Promise 25, "AN IMAGE keeps .. where all are": the last of eight.
        x = motes(0, 0, 0, 0, 0, 0, 0, 0);
        x.image();
        x.set(4, 7, NONE);
        x.back();
        due(x.told(7, 4), 0);
        // Promise 25, "AN IMAGE keeps .. where all are": in a cell.
        due(laidBack().told(0, 4), 35);
        // Promise 25, "AN IMAGE keeps .. where all are": out.
        due(laidBack().told(1, 4), NONE);
        // Promise 25, "AN IMAGE keeps .. THE RULE".
        due(laidBack().count(5), 0);
        // Promise 25, "(DUST that came since go)".
        due(laidBack().count(0), 2);
        // Promise 25, "(DUST that came since go)": it is none such then.
        due(laidBack().told(2, 5), NONE_SUCH);
        // Promise 25, "(DUST that came since go)": the next one takes its number.
        due(laidBack().dust(MOTE, 0, 0), 2);
        // Promise 25, "All that it keeps": TEXTS stay.
        due(laidBack().count(3), 2);
        // Promise 25, "All that it keeps": THE TAPE stays.
        due(laidBack().count(4), 1);
        // Promise 25, "All that it keeps": SHEETS stay.
        due(laidBack().sweep(0, 0), 0);
        // Promise 25, "All that it keeps": THE IMAGE stays, for another time.
        x = laidBack();
        x.set(4, 0, 1);
        x.back();
        due(x.told(0, 4), 35);
        // Promise 25, "(DUST that came since go)": where eight were there is room again.
        x = motes(0);
        x.image();
        for (int i = 1; i < 8; i++) {
            x.dust(MOTE, 0, 0);
        }
        x.back();
        due(x.dust(MOTE, 0, 0), 1);
        // Promise 25, "THE RULE": one that was read, and was it then.
        x = ruled(motes(0), "goes 7;frees 0;draws 0;");
        x.image();
        x.force(0);
        x.back();
        due(x.told(0, 7), 7);
        // Promise 25, "THE IMAGE": what changes behind it is not in it, a stroke truly.
        x = motes(5);
        x.image();
        x.stroke(0);
        x.back();
        due(x.told(0, 4), 5);
    }

    private static void promise26() {
        KinInTheHeap x;
        // Promise 26, "0 DUST": all eight, those who are out, too.
        due(motes(0, 0, 0, 0, 0, 0, 0, NONE).count(0), 8);
        // Promise 26, "1 CRACKS": the first and the last.
        due(cracked(bare(), 0, 35).count(1), 2);
        // Promise 26, "1 CRACKS": all.
        x = bare();
        for (int c = 0; c < 36; c++) {
            x.set(2, c, 1);
        }
        due(x.count(1), 36);
        // Promise 26, "2 WEEK": the last.
        due(inWeek(bare(), 999).count(2), 999);
        // Promise 26, "3 TEXTS": with TEXT 0.
        due(ruled(bare(), "goes 0;frees 0;draws 0;").count(3), 2);
        // Promise 26, "4 bytes of THE TAPE": 160.
        due(fed(bare(), " ".repeat(160)).count(4), 160);
        // Promise 26, "5 THE RULE": which of the TEXTS is it.
        due(ruled(bare(), "goes 0;frees 0;draws 0;").count(5), 1);
        // Promise 26, "BAD": below 0.
        due(bare().count(-1), BAD);
        // Promise 26, "BAD": 6.
        due(bare().count(6), BAD);
        // Promise 26, "BAD": as great as can be.
        due(bare().count(MAX), BAD);
        // Promise 26, "BAD": as small as can be.
        due(bare().count(MIN), BAD);
    }

    public static void main(String[] args) {
        otherwise();
        kindsAndNumbers();
        weeks();
        textsAndDust();
        tellsBad();
        promise20();
        promise21();
        promise22();
        promise23();
        promise23No();
        promise24();
        promise25();
        promise26();
        end();
    }
}
