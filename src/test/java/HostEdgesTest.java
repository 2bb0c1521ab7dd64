/**
 * Boundary cases of the host (promises 27 to 31); a test each.
 * The remark ahead of a test tells the promise, the sentence of the document, and the case.
 */
public final class HostEdgesTest extends Edges {

    private static void promise27() {
        KinInTheHeap x;
        // Promise 27, "SHEETS 0 .. 3": the first.
        due(bare().sheet(0, BYTES, 1), 1);
        // Promise 27, "SHEETS 0 .. 3": the last.
        due(bare().sheet(3, BYTES, 1), 1);
        // Promise 27, "BAD: no such SHEET": below 0.
        due(bare().sheet(-1, BYTES, 1), BAD);
        // Promise 27, "BAD: no such SHEET": above 3.
        due(bare().sheet(4, BYTES, 1), BAD);
        // Promise 27, "BAD: no such SHEET": to be missing.
        due(bare().sheet(4, -1, 0), BAD);
        // Promise 27, "of sort 0 bytes, 1 shorts, 2 ints": the last.
        due(bare().sheet(0, INTS, 1), 1);
        // Promise 27, "BAD: .. sort": 3.
        due(bare().sheet(0, 3, 1), BAD);
        // Promise 27, "BAD: .. sort": -2.
        due(bare().sheet(0, -2, 1), BAD);
        // Promise 27, "BAD: .. n above 40": 40 isn't.
        due(bare().sheet(0, BYTES, 40), 1);
        // Promise 27, "a row of n": the fortieth item is there.
        x = bare();
        x.sheet(0, BYTES, 40);
        due(x.cell(0, 39, 1), 1);
        // Promise 27, "a row of n": no forty first.
        x = bare();
        x.sheet(0, BYTES, 40);
        due(x.cell(0, 40, 1), OUTSIDE);
        // Promise 27, "BAD: .. n above 40": 41.
        due(bare().sheet(0, BYTES, 41), BAD);
        // Promise 27, "BAD: .. n above 40": as great as can be.
        due(bare().sheet(0, INTS, MAX), BAD);
        // Promise 27, "a row of n": none.
        due(bare().sheet(0, BYTES, 0), 1);
        // Promise 27, "a row of n": of none it has no item, but is not missing.
        x = bare();
        x.sheet(0, BYTES, 0);
        due(x.cell(0, 0, 1), OUTSIDE);
        // Promise 27, "-14": a size below 0.
        due(bare().sheet(0, BYTES, -1), NEGATIVE);
        // Promise 27, "-14": a size as small as can be.
        due(bare().sheet(0, INTS, MIN), NEGATIVE);
        // Promise 27, "BAD: no such SHEET, sort; n above 40; -14": no such SHEET ahead of -14.
        due(bare().sheet(4, BYTES, -1), BAD);
        // Promise 27, "BAD: no such SHEET, sort; n above 40; -14": sort ahead of -14.
        due(bare().sheet(0, 3, -1), BAD);
        // Promise 27, "Refusals ..; they change nothing": by -14 it is what it was.
        x = row(bare(), 0, BYTES, 1);
        x.sheet(0, INTS, -1);
        due(x.cell(0, 0, 1), 1);
        // Promise 27, "Refusals ..; they change nothing": by BAD it is missing still.
        x = bare();
        x.sheet(0, BYTES, 41);
        due(x.cell(0, 0, 1), MISSING);
    }

    private static void promise27Missing() {
        KinInTheHeap x;
        // Promise 27, "or missing (sort -1: n does not matter): 1": n above 40.
        due(bare().sheet(0, -1, 41), 1);
        // Promise 27, "or missing (sort -1: n does not matter): 1": n as great as can be.
        due(bare().sheet(0, -1, MAX), 1);
        // Promise 27, "or missing (sort -1: n does not matter): 1": n below 0.
        due(bare().sheet(0, -1, -1), 1);
        // Promise 27, "or missing (sort -1: n does not matter): 1": n as small as can be.
        due(bare().sheet(0, -1, MIN), 1);
        // Promise 27, "or missing": one that was there is so then.
        x = row(bare(), 0, BYTES, 1);
        x.sheet(0, -1, 5);
        due(x.cell(0, 0, 1), MISSING);
        // Promise 27, "or missing": the one beside it isn't.
        x = row(row(bare(), 0, BYTES, 1), 1, BYTES, 1);
        x.sheet(0, -1, 5);
        due(x.cell(1, 0, 1), 1);
        // Promise 27, "a row of n of a sort, all 0": one that had other numbers.
        x = row(motes(5), 0, BYTES, 2);
        x.sheet(0, BYTES, 1);
        due(x.sweep(0, 0), 1);
        // Promise 27, "a row of n of a sort, all 0": the last of forty, one that was missing in between.
        x = row(motes(0), 0, INTS, times(40, 24));
        x.sheet(0, -1, 0);
        x.sheet(0, INTS, 40);
        due(x.sweep(0, 0), 1);
        // Promise 27, "a row of n of a sort, all 0": one that had less items in between.
        x = row(motes(0), 0, INTS, times(40, 24));
        x.sheet(0, INTS, 1);
        x.sheet(0, INTS, 40);
        due(x.sweep(0, 0), 1);
    }

    /** Where one in cell 35 comes by the stroke that an item tells: 17 by 23, no other cell in the column's less. */
    private static int moved(int sort, int v) {
        return row(motes(35), 0, sort, v).sweep(0, 10);
    }

    private static void promise28() {
        KinInTheHeap x;
        // Promise 28, "BAD: no such SHEET": below 0.
        due(bare().cell(-1, 0, 0), BAD);
        // Promise 28, "BAD: no such SHEET": above 3.
        due(bare().cell(4, 0, 0), BAD);
        // Promise 28, "-11": missing.
        due(bare().cell(3, 0, 0), MISSING);
        // Promise 28, "BAD: no such SHEET; -11; -12": -11 ahead of -12.
        due(bare().cell(3, -1, 0), MISSING);
        // Promise 28, "-12": below the first item.
        due(row(bare(), 3, BYTES, 0).cell(3, -1, 0), OUTSIDE);
        // Promise 28, "-12": behind the last item.
        due(row(bare(), 3, BYTES, 0, 0).cell(3, 2, 0), OUTSIDE);
        // Promise 28, "Item i of a SHEET becomes v: 1": the last item.
        due(row(bare(), 3, BYTES, 0, 0).cell(3, 1, 0), 1);
        // Promise 28, "-12": an empty SHEET has no first item.
        due(row(bare(), 3, BYTES).cell(3, 0, 0), OUTSIDE);
        // Promise 28, "-12": as great as can be.
        due(row(bare(), 3, BYTES, 0).cell(3, MAX, 0), OUTSIDE);
        // Promise 28, "-12": as small as can be.
        due(row(bare(), 3, BYTES, 0).cell(3, MIN, 0), OUTSIDE);
        // Promise 28, "of bytes .. its lowest 8": 23 and 256 is 23.
        due(moved(BYTES, 279), 17);
        // Promise 28, "of bytes .. its lowest 8": 23 less 256 is 23.
        due(moved(BYTES, -233), 17);
        // Promise 28, "of bytes .. its lowest 8": the least int is 0.
        due(moved(BYTES, MIN), 35);
        // Promise 28, "of bytes .. its lowest 8": 255 is no 23, and is not made one.
        due(moved(BYTES, 255), BAD);
        // Promise 28, "of .. shorts its lowest .. 16 bits": 23 and 65536 is 23.
        due(moved(SHORTS, 65559), 17);
        // Promise 28, "of .. shorts its lowest .. 16 bits": 23 less 65536 is 23.
        due(moved(SHORTS, -65513), 17);
        // Promise 28, "of .. shorts its lowest .. 16 bits": 23 and 256 isn't.
        due(moved(SHORTS, 279), BAD);
        // Promise 28, "of bytes, shorts": of ints all bits, 23 and 65536 is no STROKE.
        due(moved(INTS, 65559), BAD);
        // Promise 28, "of bytes, shorts": of ints all bits, the least int is no STROKE.
        due(moved(INTS, MIN), BAD);
        // Promise 28, "Refusals ..; they change nothing": no item changes by -12.
        x = row(motes(35), 0, BYTES, 23);
        x.cell(0, 1, 0);
        x.cell(0, -1, 0);
        due(x.sweep(0, 10), 17);
        // Promise 28, "Item i of a SHEET": that of no other one.
        x = row(row(motes(35), 0, BYTES, 23), 1, BYTES, 23);
        x.cell(1, 0, 0);
        due(x.sweep(0, 10), 17);
    }

    private static KinInTheHeap sheetsOfFour() {
        return row(row(motes(0), 0, SHORTS, 0, 1, 2, 3), 1, SHORTS, 9, 9, 9, 9);
    }

    private static void promise29() {
        KinInTheHeap x;
        // Promise 29, "n numbers .. come to another one's item j on: n": all.
        due(sheetsOfFour().copy(0, 0, 1, 0, 4), 4);
        // Promise 29, "n numbers": none.
        due(sheetsOfFour().copy(0, 0, 1, 0, 0), 0);
        // Promise 29, "n numbers": none, from behind the last item.
        due(sheetsOfFour().copy(0, 4, 1, 0, 0), 0);
        // Promise 29, "n numbers": none, to behind the last item.
        due(sheetsOfFour().copy(0, 0, 1, 4, 0), 0);
        // Promise 29, "n numbers": none, of empty SHEETS.
        due(row(row(bare(), 0, BYTES), 1, BYTES).copy(0, 0, 1, 0, 0), 0);
        // Promise 29, "-12": none, from farther behind.
        due(sheetsOfFour().copy(0, 5, 1, 0, 0), OUTSIDE);
        // Promise 29, "-12": none, to farther behind.
        due(sheetsOfFour().copy(0, 0, 1, 5, 0), OUTSIDE);
        // Promise 29, "-12": none, from ahead of the first item.
        due(sheetsOfFour().copy(0, -1, 1, 0, 0), OUTSIDE);
        // Promise 29, "-12": none, to ahead of the first item.
        due(sheetsOfFour().copy(0, 0, 1, -1, 0), OUTSIDE);
        // Promise 29, "-12 (also with n below 0)".
        due(sheetsOfFour().copy(0, 1, 1, 1, -1), OUTSIDE);
        // Promise 29, "-12 (also with n below 0)": as small as can be.
        due(sheetsOfFour().copy(0, 0, 1, 0, MIN), OUTSIDE);
        // Promise 29, "n numbers": the last one to the last one.
        due(sheetsOfFour().copy(0, 3, 1, 3, 1), 1);
        // Promise 29, "-12": one item more than there are, from.
        due(sheetsOfFour().copy(0, 1, 1, 0, 4), OUTSIDE);
        // Promise 29, "-12": one item more than there are, to.
        due(sheetsOfFour().copy(0, 0, 1, 1, 4), OUTSIDE);
        // Promise 29, "-12": more than both have.
        due(sheetsOfFour().copy(0, 0, 1, 0, 5), OUTSIDE);
        // Promise 29, "-12": i and n together as great as can be, and more.
        due(sheetsOfFour().copy(0, MAX, 1, 0, 2), OUTSIDE);
        // Promise 29, "-12": j and n together as great as can be, and more.
        due(sheetsOfFour().copy(0, 0, 1, MAX, 2), OUTSIDE);
        // Promise 29, "-12": n as great as can be.
        due(sheetsOfFour().copy(0, 1, 1, 1, MAX), OUTSIDE);
        // Promise 29, "Refusals ..; they change nothing": nothing came, though some would have had room.
        x = sheetsOfFour();
        x.copy(0, 0, 1, 1, 4);
        due(x.tells(1, 0, 0), 0);
        // Promise 29, "n numbers of a SHEET .. come": those and no more.
        x = sheetsOfFour();
        x.copy(0, 0, 1, 0, 3);
        due(x.tells(1, 0, 0), 3);
        // Promise 29, "(as they were)": one item on, so that each is taken ahead of what comes to its place.
        x = row(going(motes(0)), 0, INTS, 5, 6, 7, 8);
        x.copy(0, 0, 0, 1, 3);
        due(x.tells(0, 0, 0), NONE);
        // Promise 29, "(as they were)": one item back.
        x = row(motes(0), 0, INTS, 9, 0, 1, 2, 3);
        x.copy(0, 1, 0, 0, 4);
        due(x.tells(0, 0, 0), 4);
        // Promise 29, "(as they were)": to its own place.
        due(sheetsOfFour().copy(0, 0, 0, 0, 4), 4);
    }

    /** By FORCE 0 .. 3 one goes 5, 5, 6, 7. */
    private static KinInTheHeap going(KinInTheHeap x) {
        return ruled(x, "goes 4+force+(force=0);frees 0;draws 0;");
    }

    private static void promise29Refused() {
        // Promise 29, "BAD: no such SHEET": the first below 0.
        due(sheetsOfFour().copy(-1, 0, 1, 0, 1), BAD);
        // Promise 29, "BAD: no such SHEET": the first above 3.
        due(sheetsOfFour().copy(4, 0, 1, 0, 1), BAD);
        // Promise 29, "BAD: no such SHEET": the other below 0.
        due(sheetsOfFour().copy(0, 0, -1, 0, 1), BAD);
        // Promise 29, "BAD: no such SHEET": the other above 3.
        due(sheetsOfFour().copy(0, 0, 4, 0, 1), BAD);
        // Promise 29, "-11": the first is missing.
        due(sheetsOfFour().copy(3, 0, 1, 0, 1), MISSING);
        // Promise 29, "-11": the other is missing.
        due(sheetsOfFour().copy(0, 0, 3, 0, 1), MISSING);
        // Promise 29, "-11": both are missing.
        due(sheetsOfFour().copy(2, 0, 3, 0, 0), MISSING);
        // Promise 29, "BAD: no such SHEET; -11": BAD of the other ahead of -11 of the first.
        due(sheetsOfFour().copy(3, 0, 4, 0, 1), BAD);
        // Promise 29, "-11; -13; -12": -11 ahead of -12.
        due(sheetsOfFour().copy(0, -1, 3, 0, 1), MISSING);
        // Promise 29, "-13: they are of unlike sorts": shorts and ints.
        due(row(sheetsOfFour(), 2, INTS, 0).copy(0, 0, 2, 0, 1), UNLIKE);
        // Promise 29, "-13: they are of unlike sorts": bytes and shorts.
        due(row(sheetsOfFour(), 2, BYTES, 0).copy(2, 0, 0, 0, 1), UNLIKE);
        // Promise 29, "-13: they are of unlike sorts": none come.
        due(row(sheetsOfFour(), 2, BYTES, 0).copy(2, 0, 0, 0, 0), UNLIKE);
        // Promise 29, "-13: ..; -12": -13 ahead of -12.
        due(row(sheetsOfFour(), 2, BYTES, 0).copy(2, -1, 0, 0, 1), UNLIKE);
        // Promise 29, "-13: ..; -12 (also with n below 0)": -13 ahead of that, too.
        due(row(sheetsOfFour(), 2, BYTES, 0).copy(2, 0, 0, 0, -1), UNLIKE);
    }

    private static void promise30() {
        KinInTheHeap x;
        // Promise 30, "n of them (0 .. 8): how many came": none are asked.
        due(row(bare(), 0, BYTES, 0, 0, 0).heap(0, BYTES, 0, 0), 0);
        // Promise 30, "how many came": none are asked, of an empty SHEET.
        due(row(bare(), 0, BYTES).heap(0, BYTES, 0, 0), 0);
        // Promise 30, "-12": none are asked, so that no place is, wherever it would be.
        due(row(bare(), 0, BYTES).heap(0, BYTES, -1, 0), 0);
        // Promise 30, "n of them (0 .. 8)": eight.
        due(row(bare(), 0, BYTES, times(24, 5)).heap(0, BYTES, 0, 8), 8);
        // Promise 30, "from one on": the last three of forty.
        due(row(bare(), 0, INTS, times(40, 0)).heap(0, INTS, 37, 1), 1);
        // Promise 30, "-12": the last two of forty, and one behind them.
        due(row(bare(), 0, INTS, times(40, 0)).heap(0, INTS, 38, 1), OUTSIDE);
        // Promise 30, "-12": of three the first alone is there.
        due(row(bare(), 0, INTS, times(40, 0)).heap(0, INTS, 39, 1), OUTSIDE);
        // Promise 30, "-12": ahead of the first item.
        due(row(bare(), 0, BYTES, times(24, 0)).heap(0, BYTES, -1, 1), OUTSIDE);
        // Promise 30, "-12": three ahead of the first item, the second three being there.
        due(row(bare(), 0, BYTES, times(24, 0)).heap(0, BYTES, -3, 2), OUTSIDE);
        // Promise 30, "-12": as great as can be.
        due(row(bare(), 0, BYTES, times(24, 0)).heap(0, BYTES, MAX, 8), OUTSIDE);
        // Promise 30, "-12": as small as can be.
        due(row(bare(), 0, BYTES, times(24, 0)).heap(0, BYTES, MIN, 8), OUTSIDE);
        // Promise 30, "-12": an empty SHEET.
        due(row(bare(), 0, BYTES).heap(0, BYTES, 0, 1), OUTSIDE);
        // Promise 30, "-12: what stood ahead came".
        x = row(bare(), 0, BYTES, times(8, 1));
        x.heap(0, BYTES, 0, 3);
        due(x.count(0), 2);
        // Promise 30, "-12": none came ahead of it.
        x = row(bare(), 0, BYTES, 0, 0);
        x.heap(0, BYTES, 0, 1);
        due(x.count(0), 0);
        // Promise 30, "three by three (as of dust())": the kind.
        x = row(bare(), 0, BYTES, 9, CINDER, 8, 35);
        x.heap(0, BYTES, 1, 1);
        due(x.told(0, 5), CINDER);
        // Promise 30, "three by three (as of dust())": the number.
        x = row(bare(), 0, BYTES, 9, CINDER, 8, 35);
        x.heap(0, BYTES, 1, 1);
        due(x.told(0, 3), 8);
        // Promise 30, "three by three (as of dust())": the cell.
        x = row(bare(), 0, BYTES, 9, CINDER, 8, 35);
        x.heap(0, BYTES, 1, 1);
        due(x.told(0, 4), 35);
    }

    private static void promise30LeftOut() {
        KinInTheHeap x;
        // Promise 30, "(others are left out)": a kind that is none, 6.
        due(row(bare(), 0, BYTES, 6, 0, 0, 0, 0, 0).heap(0, BYTES, 0, 2), 1);
        // Promise 30, "(others are left out)": a kind that is none, -1.
        due(row(bare(), 0, BYTES, 255, 0, 0).heap(0, BYTES, 0, 1), 0);
        // Promise 30, "(others are left out)": a number that is none, 10.
        due(row(bare(), 0, SHORTS, 0, 10, 0, 0, 9, 0).heap(0, SHORTS, 0, 2), 1);
        // Promise 30, "(others are left out)": a cell that is none, 36.
        due(row(bare(), 0, INTS, 0, 0, 36, 0, 0, 35).heap(0, INTS, 0, 2), 1);
        // Promise 30, "(others are left out)": NONE, for none is out as it comes.
        due(row(bare(), 0, INTS, 0, 0, -1).heap(0, INTS, 0, 1), 0);
        // Promise 30, "(others are left out)": those that have no room.
        due(row(motes(0, 0, 0, 0, 0, 0), 0, BYTES, times(24, 0)).heap(0, BYTES, 0, 8), 2);
        // Promise 30, "(others are left out)": all, for there are eight.
        due(row(motes(0, 0, 0, 0, 0, 0, 0, 0), 0, BYTES, times(24, 0)).heap(0, BYTES, 0, 8), 0);
        // Promise 30, "-12": behind those that have no room.
        due(row(motes(0, 0, 0, 0, 0, 0, 0, 0), 0, BYTES, times(3, 0)).heap(0, BYTES, 0, 2), OUTSIDE);
        // Promise 30, "-12": behind one that is left out.
        due(row(bare(), 0, BYTES, 6, 0, 0).heap(0, BYTES, 0, 2), OUTSIDE);
        // Promise 30, "(others are left out)": the next one takes the number.
        x = row(bare(), 0, BYTES, 6, 0, 0, SOOT, 0, 0);
        x.heap(0, BYTES, 0, 2);
        due(x.told(0, 5), SOOT);
    }

    private static void promise30Refused() {
        KinInTheHeap x;
        // Promise 30, "BAD: no such SHEET": below 0.
        due(bare().heap(-1, BYTES, 0, 0), BAD);
        // Promise 30, "BAD: no such SHEET": above 3.
        due(bare().heap(4, BYTES, 0, 0), BAD);
        // Promise 30, "BAD: .. sort": below 0 (a SHEET is not taken for one that is missing).
        due(bare().heap(0, -1, 0, 0), BAD);
        // Promise 30, "BAD: .. sort": 3.
        due(row(bare(), 0, BYTES, 0, 0, 0).heap(0, 3, 0, 1), BAD);
        // Promise 30, "BAD: .. n": below 0.
        due(row(bare(), 0, BYTES, 0, 0, 0).heap(0, BYTES, 0, -1), BAD);
        // Promise 30, "BAD: .. n": 9.
        due(row(bare(), 0, BYTES, times(40, 0)).heap(0, BYTES, 0, 9), BAD);
        // Promise 30, "BAD: .. n": as great as can be.
        due(row(bare(), 0, BYTES, times(40, 0)).heap(0, BYTES, 0, MAX), BAD);
        // Promise 30, "BAD: ..; -13": BAD ahead of -13.
        due(row(bare(), 0, BYTES, 0, 0, 0).heap(0, SHORTS, 0, 9), BAD);
        // Promise 30, "BAD: ..; -13; -11": BAD ahead of -11.
        due(bare().heap(0, BYTES, 0, 9), BAD);
        // Promise 30, "-13": bytes taken for shorts.
        due(row(bare(), 0, BYTES, 0, 0, 0).heap(0, SHORTS, 0, 1), UNLIKE);
        // Promise 30, "-13": ints taken for bytes.
        due(row(bare(), 0, INTS, 0, 0, 0).heap(0, BYTES, 0, 1), UNLIKE);
        // Promise 30, "-13": none are asked.
        due(row(bare(), 0, INTS).heap(0, SHORTS, 0, 0), UNLIKE);
        // Promise 30, "-13; -11; -12": -13 ahead of -12.
        due(row(bare(), 0, INTS, 0).heap(0, BYTES, -1, 1), UNLIKE);
        // Promise 30, "-11": missing.
        due(bare().heap(3, INTS, 0, 1), MISSING);
        // Promise 30, "-11": missing, and none are asked.
        due(bare().heap(3, BYTES, 0, 0), MISSING);
        // Promise 30, "-13; -11; -12": -11 ahead of -12.
        due(bare().heap(3, BYTES, -1, 1), MISSING);
        // Promise 30, "Refusals ..; they change nothing": none came by -13.
        x = row(bare(), 0, INTS, 0, 0, 0);
        x.heap(0, BYTES, 0, 1);
        due(x.count(0), 0);
    }

    private static void promise31() {
        // Promise 31, "BAD: k": below 0.
        due(motes(0).taken(0, -1), BAD);
        // Promise 31, "BAD: k": 6.
        due(motes(0).taken(0, 6), BAD);
        // Promise 31, "BAD: k; -11": BAD ahead of -11.
        due(bare().taken(0, 6), BAD);
        // Promise 31, "-11: none such": no dust at all.
        due(bare().taken(0, MOTE), MISSING);
        // Promise 31, "-11: none such": one behind the last.
        due(motes(0).taken(1, MOTE), MISSING);
        // Promise 31, "-11: none such": one ahead of the first.
        due(motes(0).taken(-1, MOTE), MISSING);
        // Promise 31, "-11: none such": behind the last of eight.
        due(motes(0, 0, 0, 0, 0, 0, 0, 0).taken(8, MOTE), MISSING);
        // Promise 31, "-11: none such": as great as can be.
        due(motes(0).taken(MAX, MOTE), MISSING);
        // Promise 31, "-11: none such; -13": -11 ahead of -13.
        due(motes(0).taken(1, SOOT), MISSING);
        // Promise 31, "one of KIND k": itself, the last kind, NUMBER 9.
        due(dusts(CINDER, 9, 0).taken(0, CINDER), 9);
        // Promise 31, "one of KIND k": itself, NUMBER 0.
        due(dusts(MOTE, 0, 0).taken(0, MOTE), 0);
        // Promise 31, "or one under that one": right under it.
        due(dusts(SHOE, 7, 0).taken(0, UNCLE), 7);
        // Promise 31, "(also by others between)": a shoe is under a mote by an uncle.
        due(dusts(SHOE, 7, 0).taken(0, MOTE), 7);
        // Promise 31, "(also by others between)": a soot is under a mote by a spark.
        due(dusts(SOOT, 7, 0).taken(0, MOTE), 7);
        // Promise 31, "-13": what is above is not under, a mote is no uncle.
        due(dusts(MOTE, 7, 0).taken(0, UNCLE), UNLIKE);
        // Promise 31, "-13": what is above is not under, an uncle is no shoe.
        due(dusts(UNCLE, 7, 0).taken(0, SHOE), UNLIKE);
        // Promise 31, "-13": what is beside is not under, a shoe is no spark.
        due(dusts(SHOE, 7, 0).taken(0, SPARK), UNLIKE);
        // Promise 31, "-13": what is beside is not under, a cinder is no soot.
        due(dusts(CINDER, 7, 0).taken(0, SOOT), UNLIKE);
        // Promise 31, "One of DUST": one that is out, too.
        KinInTheHeap x = dusts(CINDER, 7, 0);
        x.set(4, 0, NONE);
        due(x.taken(0, MOTE), 7);
        // Promise 31, "the NUMBER": as it was set.
        x = dusts(CINDER, 7, 0);
        x.set(3, 0, 9);
        due(x.taken(0, MOTE), 9);
    }

    public static void main(String[] args) {
        promise27();
        promise27Missing();
        promise28();
        promise29();
        promise29Refused();
        promise30();
        promise30LeftOut();
        promise30Refused();
        promise31();
        end();
    }
}
