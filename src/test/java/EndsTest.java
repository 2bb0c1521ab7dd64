import java.util.Arrays;

/** No call throws or fails to end, whatever it is given in whatever state; and what is refused changes nothing. */
public final class EndsTest {
    private static final int[] ODD = {Integer.MIN_VALUE, Integer.MIN_VALUE + 1, -1000, -1, 0, 1, 2, 3, 5, 8, 10, 23, 24, 35, 36, 40, 41,
        255, 256, 1000, Integer.MAX_VALUE - 1, Integer.MAX_VALUE};
    private static long calls = 0;

    private static KinInTheHeap[] states() {
        KinInTheHeap bare = new KinInTheHeap();
        KinInTheHeap full = new KinInTheHeap();
        for (int i = 0; i < 8; i++) {
            full.dust(i % 6, i, i * 4);
        }
        KinInTheHeap out = new KinInTheHeap();
        out.dust(0, 0, 0);
        out.set(4, 0, -1);
        KinInTheHeap texts = new KinInTheHeap();
        for (int t = 0; t < 5; t++) {
            feed(texts, "goes -(week*9999*9999);frees kin-1;draws -column*row;");
            texts.text();
        }
        feed(texts, "goes ((((");
        texts.force(5);
        for (int i = 0; i < 5; i++) {
            texts.dust(5 - i, 9 - i, 35 - i);
            texts.set(2, 35 - i, i % 2);
        }
        texts.set(0, 0, 999);
        for (int s = 0; s < 3; s++) {
            full.sheet(s, s, 40);
            texts.sheet(s + 1, s, s);
            out.sheet(s, 2 - s, 10);
        }
        full.cell(2, 39, Integer.MIN_VALUE);
        return new KinInTheHeap[] {bare, full, out, texts};
    }

    private static void feed(KinInTheHeap x, String s) {
        for (int i = 0; i < s.length(); i++) {
            x.feed(s.charAt(i));
        }
    }

    private static long[] look(KinInTheHeap x) {
        long[] all = new long[80];
        int n = 0;
        for (int w = 0; w < 6; w++) {
            all[n++] = x.count(w);
        }
        for (int d = 0; d < 8; d++) {
            for (int w = 3; w < 10; w++) {
                all[n++] = x.told(d, w);
            }
        }
        all[n++] = x.told(0, 1);
        all[n++] = x.where(0);
        all[n++] = x.where(1);
        for (int s = 0; s < 4; s++) {
            all[n++] = x.sweep(s, 3);
            all[n++] = x.tells(s, 0, 5);
        }
        return all;
    }

    /** Calls number k of the face with what it takes of a, b, c, d, e. */
    private static long call(KinInTheHeap x, int k, int a, int b, int c, int d, int e) {
        calls++;
        switch (k) {
            case 0: return x.set(a, b, c);
            case 1: return x.dust(a, b, c);
            case 2: return x.told(a, b);
            case 3: return x.feed(a);
            case 4: return x.text();
            case 5: return x.force(a);
            case 6: return x.stroke(a);
            case 7: return x.week();
            case 8: return x.sweep(a, b);
            case 9: return x.sweeps(a);
            case 10: return x.floor(a);
            case 11: return x.where(a);
            case 12: return x.gather(a, b);
            case 13: return x.best(a);
            case 14: return x.save(a, b);
            case 15: return x.lasts(a, b);
            case 16: return x.share(a);
            case 17: return x.tells(a, b, c);
            case 18: return x.places(a, b);
            case 19: return x.film(a, b);
            case 20: return x.drawn(a, b);
            case 21: return x.chance(a, b, c, d);
            case 22: return x.image();
            case 23: return x.back();
            case 24: return x.count(a);
            case 25: return x.sheet(a, b, c);
            case 26: return x.cell(a, b, c);
            case 27: return x.copy(a, b, c, d, e);
            case 28: return x.heap(a, b, c, d);
            default: return x.taken(a, b);
        }
    }

    private static int taken(int k) {
        int[] many = {3, 3, 2, 1, 0, 1, 1, 0, 2, 1, 1, 1, 2, 1, 2, 2, 1, 3, 2, 2, 2, 4, 0, 0, 1, 3, 3, 5, 4, 2};
        return many[k];
    }

    private static boolean isRefusal(int k, long answer) {
        boolean faultOrHeap = k == 4 && answer <= -100 || k == 28 && answer == -12;
        return answer < -1 && !faultOrHeap;
    }

    /** Every odd number in every place, in every state; the sheets are told only four numbers, or it takes too long. */
    private static void refusalsChangeNothing() {
        for (int k = 0; k < 30; k++) {
            int many = taken(k);
            int[] first = many > 3 ? new int[] {-1, 0, 1, 3, 4, Integer.MAX_VALUE} : ODD;
            int[] rest = many > 3 ? new int[] {Integer.MIN_VALUE, -1, 0, 1, 3, 40, Integer.MAX_VALUE} : ODD;
            KinInTheHeap[] states = states();
            for (int s = 0; s < states.length; s++) {
                KinInTheHeap x = states[s];
                long[] was = look(x);
                for (int a : many > 0 ? first : new int[1]) {
                    for (int b : many > 1 ? rest : new int[1]) {
                        for (int c : many > 2 ? rest : new int[1]) {
                            for (int d : many > 3 ? rest : new int[1]) {
                                for (int e : many > 4 ? rest : new int[1]) {
                                    if (isRefusal(k, call(x, k, a, b, c, d, e))) {
                                        if (many < 3 || (a ^ b ^ c ^ d ^ e) % 7 == 0) {
                                            same(was, look(x), k, s);
                                        }
                                    } else {
                                        x = states()[s];
                                        was = look(x);
                                    }
                                }
                            }
                        }
                    }
                }
            }
        }
    }

    private static void same(long[] was, long[] is, int k, int state) {
        if (!Arrays.equals(was, is)) {
            System.out.println("a refused call " + k + " changed state " + state);
            System.exit(1);
        }
    }

    /** Calls one behind the other in one object, far more than 512 in all, from a row of numbers that is always the same. */
    private static void longRuns() {
        long z = 1;
        for (int run = 0; run < 400; run++) {
            KinInTheHeap x = states()[run % 4];
            for (int i = 0; i < 512; i++) {
                int[] v = new int[6];
                for (int j = 0; j < 6; j++) {
                    z = z * 6364136223846793005L + 1442695040888963407L;
                    int r = (int) (z >>> 33);
                    v[j] = r % 4 == 0 ? ODD[(r >>> 2) % ODD.length] : (r >>> 2) % (j == 0 ? 30 : 12);
                }
                call(x, Math.floorMod(v[0], 30), v[1], v[2], v[3], v[4], v[5]);
            }
        }
    }

    public static void main(String[] args) {
        refusalsChangeNothing();
        longRuns();
        System.out.println(calls + " calls came to an end");
    }
}
