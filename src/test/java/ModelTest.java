import java.util.ArrayList;
import java.util.List;
import java.util.Random;

/**
 * Compares the class with a second, slow reading of the document, over runs of random calls.
 * The seeds are fixed, so that every run is the same.
 */
public final class ModelTest {

    /** One of dust; the kinds stand under one another as the document has them. */
    static class Mote {
        int number;
        Integer cell;

        int kind() { return 0; }
        int goes(Model m) { return Math.max(0, Math.min(9, m.rule().goes.value(m, this))); }
        boolean free(Model m) { return m.rule().frees.value(m, this) != 0; }
        int way(Model m) { return ((m.rule().draws.value(m, this) % 5) + 5) % 5; }
        int farther(Model m) { return Math.max(0, Math.min(9, goes(m))); }
    }

    static class Uncle extends Mote {
        int kind() { return 1; }
        int goes(Model m) { return super.goes(m) / 2; }
        boolean free(Model m) { return false; }
        int way(Model m) { return 0; }
    }

    static class Spark extends Mote {
        int kind() { return 2; }
        int goes(Model m) { return super.goes(m) + 1; }
        boolean free(Model m) { return true; }
    }

    static class Shoe extends Uncle {
        int kind() { return 3; }
        int goes(Model m) { return m.kin(this).size() == 1 ? 0 : super.goes(m); }
        boolean free(Model m) { return super.free(m) || m.force == 9; }
    }

    static class Soot extends Spark {
        int kind() { return 4; }
        int goes(Model m) { return 2 * super.goes(m); }
        boolean free(Model m) { return m.week % 2 == 0 && super.free(m); }
        int way(Model m) { return new int[] {0, 2, 1, 4, 3}[super.way(m)]; }
    }

    static class Cinder extends Mote {
        int kind() { return 5; }
        int goes(Model m) { return m.force > 5 ? number : 0; }
        boolean free(Model m) { return !super.free(m); }
        int way(Model m) { return number > 4 ? super.way(m) : 0; }
    }

    static Mote make(int kind, int number, Integer cell) {
        Mote made = switch (kind) {
            case 0 -> new Mote();
            case 1 -> new Uncle();
            case 2 -> new Spark();
            case 3 -> new Shoe();
            case 4 -> new Soot();
            default -> new Cinder();
        };
        made.number = number;
        made.cell = cell;
        return made;
    }

    static Class<?> classOf(int kind) {
        return make(kind, 0, null).getClass();
    }

    interface Told { int value(Model m, Mote one); }

    static final class Rule { Told goes, frees, draws; }

    @SuppressWarnings("serial")
    static final class Fault extends RuntimeException {
        final int place;
        Fault(int place) { super(null, null, false, false); this.place = place; }
    }

    /** Reads by descent, token for token as the grammar stands in the document. */
    static final class Descent {
        final String s;
        int from = 0, till = 0, open = 0;
        String token = "";

        Descent(String s) { this.s = s; next(); }

        void next() {
            from = till;
            while (from < s.length() && (s.charAt(from) == ' ' || s.charAt(from) == '\n')) from++;
            till = from;
            if (from == s.length()) { token = ""; return; }
            char c = s.charAt(from);
            if (c >= 'a' && c <= 'z') {
                while (till < s.length() && s.charAt(till) >= 'a' && s.charAt(till) <= 'z') till++;
                token = s.substring(from, till);
                if (!List.of("goes", "frees", "draws", "or", "and", "not", "force", "number", "row", "column").contains(token)
                        && !token.equals("kin") && !token.equals("week")) token = "?";
            } else if (c >= '0' && c <= '9') {
                while (till < s.length() && s.charAt(till) >= '0' && s.charAt(till) <= '9') till++;
                token = till - from > 4 ? "?" : s.substring(from, till);
            } else {
                till++;
                token = "();+-*<=".indexOf(c) < 0 ? "?" : s.substring(from, till);
            }
        }

        boolean is(String t) { return token.equals(t); }
        Fault fault() { return new Fault(from); }
        void want(String t) { if (!is(t)) throw fault(); next(); }
        void enter() { if (open == 5) throw fault(); open++; next(); }

        Rule rule() {
            Rule r = new Rule();
            want("goes"); r.goes = e(); want(";");
            want("frees"); r.frees = e(); want(";");
            want("draws"); r.draws = e(); want(";");
            want("");
            return r;
        }

        Told e() {
            Told a = and();
            while (is("or")) {
                next();
                Told l = a, r = and();
                a = (m, d) -> l.value(m, d) != 0 || r.value(m, d) != 0 ? 1 : 0;
            }
            return a;
        }

        Told and() {
            Told a = not();
            while (is("and")) {
                next();
                Told l = a, r = not();
                a = (m, d) -> l.value(m, d) != 0 && r.value(m, d) != 0 ? 1 : 0;
            }
            return a;
        }

        Told not() {
            if (is("not")) {
                enter();
                Told of = not();
                open--;
                return (m, d) -> of.value(m, d) == 0 ? 1 : 0;
            }
            Told l = sum();
            if (is("<")) {
                next();
                Told r = sum();
                return (m, d) -> l.value(m, d) < r.value(m, d) ? 1 : 0;
            }
            if (is("=")) {
                next();
                Told r = sum();
                return (m, d) -> l.value(m, d) == r.value(m, d) ? 1 : 0;
            }
            return l;
        }

        Told sum() {
            Told a = term();
            while (is("+") || is("-")) {
                boolean plus = is("+");
                next();
                Told l = a, r = term();
                a = plus ? (m, d) -> l.value(m, d) + r.value(m, d) : (m, d) -> l.value(m, d) - r.value(m, d);
            }
            return a;
        }

        Told term() {
            Told a = one();
            while (is("*")) {
                next();
                Told l = a, r = one();
                a = (m, d) -> l.value(m, d) * r.value(m, d);
            }
            return a;
        }

        Told one() {
            if (is("-")) {
                enter();
                Told of = one();
                open--;
                return (m, d) -> -of.value(m, d);
            }
            if (is("(")) {
                enter();
                Told in = e();
                want(")");
                open--;
                return in;
            }
            String t = token;
            if (!t.isEmpty() && t.charAt(0) >= '0' && t.charAt(0) <= '9') {
                int v = Integer.parseInt(t);
                next();
                return (m, d) -> v;
            }
            Told name = switch (t) {
                case "force" -> (m, d) -> m.force;
                case "number" -> (m, d) -> d.number;
                case "row" -> (m, d) -> d.cell / 6;
                case "column" -> (m, d) -> d.cell % 6;
                case "kin" -> (m, d) -> m.kin(d).size();
                case "week" -> (m, d) -> m.week;
                default -> throw fault();
            };
            next();
            return name;
        }
    }

    static final class Row {
        final int sort;
        final int[] v;
        Row(int sort, int n) { this.sort = sort; v = new int[n]; }
    }

    static final int NONE = -1, BAD = -2, STATE = -3, FULL = -4;
    static final long NO = -4611686018427387904L;

    static final class Model {
        boolean[] crack = new boolean[36];
        int week = 0, force = 3, rule = 0;
        List<Mote> dust = new ArrayList<>();
        List<Rule> rules = new ArrayList<>();
        StringBuilder tape = new StringBuilder();
        Row[] rows = new Row[4];
        Model image = null;

        Model() { rules.add(new Descent("goes force ; frees 0 ; draws 0 ;").rule()); }

        Rule rule() { return rules.get(rule); }

        Model copied() {
            Model m = new Model();
            m.crack = crack.clone();
            m.week = week; m.force = force; m.rule = rule; m.rules = rules; m.rows = rows;
            for (Mote d : dust) m.dust.add(make(d.kind(), d.number, d.cell));
            return m;
        }

        boolean has(int one) { return one >= 0 && one < dust.size(); }
        boolean in(int one) { return has(one) && dust.get(one).cell != null; }
        static boolean isCell(int c) { return c >= 0 && c < 36; }

        List<Mote> kin(Mote one) {
            List<Mote> all = new ArrayList<>();
            for (Mote d : dust) if (d.cell == null ? one.cell == null : d.cell.equals(one.cell)) all.add(d);
            return all;
        }

        int bits(List<Mote> some) {
            int b = 0;
            for (Mote d : some) b |= 1 << dust.indexOf(d);
            return b;
        }

        List<Mote> at(Integer cell) {
            List<Mote> all = new ArrayList<>();
            for (Mote d : dust) if (cell == null ? d.cell == null : cell.equals(d.cell)) all.add(d);
            return all;
        }

        int outs() { return at(null).size(); }

        static Integer next(Integer cell, int way) {
            int column = cell % 6, row = cell / 6;
            if (way == 1) column++;
            if (way == 2) column--;
            if (way == 3) row++;
            if (way == 4) row--;
            return column < 0 || column > 5 || row < 0 || row > 5 ? null : Integer.valueOf(row * 6 + column);
        }

        int stroke(int s) {
            int was = outs();
            List<Integer> to = new ArrayList<>();
            for (Mote d : dust) {
                Integer c = d.cell;
                boolean line = c != null && (s < 12 ? c / 6 == s / 2 : c % 6 == (s - 12) / 2);
                if (line && (!crack[c] || d.free(this))) {
                    int far = d.farther(this);
                    while (far > 0 && c != null) {
                        c = next(c, (s < 12 ? 1 : 3) + (s % 2));
                        far = c != null && crack[c] ? 0 : far - 1;
                    }
                }
                to.add(c);
            }
            for (int i = 0; i < dust.size(); i++) dust.get(i).cell = to.get(i);
            return outs() - was;
        }

        int blow() {
            int was = outs();
            List<Integer> to = new ArrayList<>();
            for (Mote d : dust) {
                boolean goes = d.cell != null && (!crack[d.cell] || d.free(this));
                to.add(goes ? next(d.cell, d.way(this)) : d.cell);
            }
            for (int i = 0; i < dust.size(); i++) dust.get(i).cell = to.get(i);
            week++;
            return outs() - was;
        }

        int heaps() { int h = 0; for (int c = 0; c < 36; c++) if (!at(c).isEmpty()) h++; return h; }
        int greatest() { int g = 0; for (int c = 0; c < 36; c++) g = Math.max(g, at(c).size()); return g; }
        int together() { int t = 0; for (int c = 0; c < 36; c++) t += at(c).size() * (at(c).size() - 1) / 2; return t; }

        int spread() {
            int all = 0;
            for (Mote a : dust) for (Mote b : dust) if (a.cell != null && b.cell != null)
                all += Math.abs(a.cell / 6 - b.cell / 6) + Math.abs(a.cell % 6 - b.cell % 6);
            return all / 2;
        }

        Model behind(int... strokes) {
            Model m = copied();
            for (int s : strokes) m.stroke(s);
            return m;
        }

        long set(int what, int of, int v) {
            long was;
            if (what == 0 && v >= 0 && v <= 999) { was = week; week = v; return was; }
            if (what == 1 && v >= 0 && v <= 9) { was = force; force = v; return was; }
            if (what == 2 && isCell(of) && (v == 0 || v == 1)) { was = crack[of] ? 1 : 0; crack[of] = v == 1; return was; }
            if (what == 3 && has(of) && v >= 0 && v <= 9) { was = dust.get(of).number; dust.get(of).number = v; return was; }
            if (what == 4 && has(of) && (v == NONE || isCell(v))) {
                was = dust.get(of).cell == null ? NONE : dust.get(of).cell;
                dust.get(of).cell = v == NONE ? null : v;
                return was;
            }
            return -1000;
        }

        long dust(int kind, int number, int on) {
            if (kind < 0 || kind > 5 || number < 0 || number > 9 || !isCell(on)) return BAD;
            if (dust.size() == 8) return FULL;
            dust.add(make(kind, number, on));
            return dust.size() - 1;
        }

        long told(int of, int what) {
            if (what == 0) return week;
            if (what == 1) return force;
            if (what == 2) return isCell(of) ? (crack[of] ? 1 : 0) : -1000;
            if (what == 10) return isCell(of) ? bits(at(of)) : -1000;
            if (what < 0 || what > 10 || !has(of)) return -1000;
            Mote d = dust.get(of);
            if (what == 3) return d.number;
            if (what == 4) return d.cell == null ? NONE : d.cell;
            if (what == 5) return d.kind();
            if (what == 6) return bits(kin(d));
            if (d.cell == null) return NONE;
            return what == 7 ? d.farther(this) : what == 8 ? (d.free(this) ? 1 : 0) : d.way(this);
        }

        long feed(int letter) {
            if (letter < 0 || letter > 255) return BAD;
            if (tape.length() == 160) return FULL;
            tape.append((char) letter);
            return tape.length();
        }

        long text() {
            if (rules.size() == 6) return FULL;
            String s = tape.toString();
            tape.setLength(0);
            try {
                rules.add(new Descent(s).rule());
                return rules.size() - 1;
            } catch (Fault f) {
                return -100 - f.place;
            }
        }

        long force(int text) {
            if (text < 0 || text >= rules.size()) return BAD;
            int was = rule;
            rule = text;
            return was;
        }

        long week() { return week == 999 ? STATE : blow(); }

        boolean noStrokes(Row r) {
            for (int s : r.v) if (s < 0 || s > 23) return true;
            return false;
        }

        long sweep(int sheet, int what) {
            if (sheet < 0 || sheet > 3 || !(what >= 0 && what <= 3 || what >= 10 && has(what - 10))) return BAD;
            if (rows[sheet] == null) return -11;
            if (noStrokes(rows[sheet])) return BAD;
            Model m = behind(rows[sheet].v);
            if (what == 0) return m.outs() - outs();
            if (what == 1) return m.together();
            if (what == 2) return m.heaps();
            if (what == 3) return m.spread();
            return m.told(what - 10, 4);
        }

        long sweeps(int sheet) {
            long all = sweep(sheet, 0);
            if (all >= 0) for (int s : rows[sheet].v) stroke(s);
            return all;
        }

        long floor(int what) {
            return switch (what) {
                case 0 -> heaps();
                case 1 -> greatest();
                case 2 -> together();
                case 3 -> spread();
                case 4 -> bits(at(null));
                default -> BAD;
            };
        }

        long where(int what) {
            long b = 0;
            if (what == 0) { for (int c = 0; c < 36; c++) if (!at(c).isEmpty()) b += 1L << c; return b; }
            if (what == 1) { for (int c = 0; c < 36; c++) if (crack[c]) b += 1L << c; return b; }
            if (what < 10 || !has(what - 10)) return NO;
            for (int s = 0; s < 24; s++) {
                Integer c = behind(s).dust.get(what - 10).cell;
                if (c != null) b |= 1L << c;
            }
            return b;
        }

        boolean one(int some) {
            for (int c = 0; c < 36; c++) if ((bits(at(c)) & some) == some) return true;
            return false;
        }

        long gather(int some, int what) {
            if (some < 1 || some >= 1 << dust.size() || what < 0 || what > 1) return BAD;
            if (one(some)) return 0;
            for (int s = 0; s < 24; s++) if (behind(s).one(some)) return what == 0 ? 1 : s + 1;
            for (int s = 0; s < 24; s++) for (int t = 0; t < 24; t++)
                if (behind(s, t).one(some)) return what == 0 ? 2 : (s + 1) * 100 + t + 1;
            return NONE;
        }

        long best(int what) {
            if (what < 0 || what > 5) return BAD;
            long stroke = NONE, best = 0, told = NONE;
            for (int s = 0; s < 24; s++) {
                Model m = behind(s);
                boolean moved = false;
                for (int i = 0; i < dust.size(); i++) moved |= m.told(i, 4) != told(i, 4);
                if (what >= 4 && !moved) continue;
                long v = what < 2 ? m.together() : what < 4 ? m.spread() : m.outs();
                if (stroke == NONE || (what < 2 ? v > best : v < best)) { stroke = s; best = v; told = v; }
            }
            return what % 2 == 0 ? stroke : told;
        }

        long save(int s, int what) {
            if (s < 0 || s > 23 || what < 0 || what > 1) return BAD;
            int fewest = behind(s).outs(), cell = NONE;
            for (int c = 0; c < 36; c++) {
                if (crack[c] || !at(c).isEmpty()) continue;
                Model m = copied();
                m.crack[c] = true;
                m.stroke(s);
                if (m.outs() < fewest) { fewest = m.outs(); cell = c; }
            }
            return what == 0 ? cell : fewest;
        }

        long lasts(int one, int n) {
            if (!has(one) || n < 0 || n > 40) return BAD;
            Model m = copied();
            for (int i = 0; i <= n; i++) {
                if (!m.in(one)) return i;
                m.blow();
            }
            return NONE;
        }

        static long part(long above, long below, int part) {
            if (below == 0 || part < 0 || part > 1) return NO;
            long g = java.math.BigInteger.valueOf(above).gcd(java.math.BigInteger.valueOf(below)).longValue();
            return (part == 0 ? above : below) / g;
        }

        long share(int part) { return part(outs(), dust.size(), part); }

        int otherwise(int[] v, int one) {
            int was = force, first = NONE;
            for (force = 0; force < v.length && first == NONE; force++)
                if (dust.get(one).farther(this) != v[force]) first = force;
            force = was;
            return first;
        }

        long tells(int sheet, int one, int what) {
            if (sheet < 0 || sheet > 3 || !in(one) || what < 0 || what > 6) return BAD;
            if (rows[sheet] == null) return -11;
            int[] v = rows[sheet].v;
            if (v.length > 10) return BAD;
            int bits = 0, weeks = 0, least = NONE;
            if (what == 0) return otherwise(v, one);
            int many = what == 1 ? 6 : what == 2 ? 10 : what < 5 ? 100 : what == 5 ? rules.size() : dust.size();
            for (int i = 0; i < many; i++) {
                Model m = copied();
                Mote d = m.dust.get(one);
                if (what == 1) m.dust.set(one, make(i, d.number, d.cell));
                if (what == 2) d.number = i;
                if (what == 3 || what == 4) m.week = i;
                if (what == 5) m.rule = i;
                if (what == 6 && !in(i)) continue;
                if (m.otherwise(v, what == 6 ? i : one) != NONE) continue;
                if (what == 3 || what == 4) { weeks++; if (least == NONE) least = i; } else bits |= 1 << i;
            }
            return what == 3 ? weeks : what == 4 ? least : bits;
        }

        long places(int sheet, int one) {
            if (tells(sheet, one, 0) < NONE) return NO;
            long b = 0;
            for (int c = 0; c < 36; c++) {
                Model m = copied();
                m.dust.get(one).cell = c;
                if (m.otherwise(rows[sheet].v, one) == NONE) b |= 1L << c;
            }
            return b;
        }

        long film(int sheet, int one) {
            if (sheet < 0 || sheet > 3 || !in(one)) return BAD;
            Row r = new Row(0, 10);
            Model m = copied();
            int all = 0;
            for (int f = 0; f < 10; f++) { m.force = f; r.v[f] = m.dust.get(one).farther(m); all += r.v[f]; }
            rows[sheet] = r;
            return all;
        }

        int outsBy(int seed, int n) {
            Model m = copied();
            int z = seed;
            for (int i = 0; i < n; i++) { z = z * 1103515245 + 12345; m.stroke((z >>> 9) % 24); }
            return m.outs();
        }

        long drawn(int seed, int n) { return n < 0 || n > 40 ? BAD : outsBy(seed, n); }

        long chance(int seed, int m, int k, int part) {
            if (m < 1 || m > 20 || k < 0 || k > 8) return NO;
            int hits = 0;
            for (int i = 0; i < m; i++) if (outsBy(seed + i, 6) <= k) hits++;
            return part(hits, m, part);
        }

        long image() { image = copied(); return dust.size(); }

        long back() {
            if (image == null) return STATE;
            Model m = image.copied();
            crack = m.crack; week = m.week; force = m.force; rule = m.rule; dust = m.dust;
            return dust.size();
        }

        long count(int what) {
            int cracks = 0;
            for (boolean c : crack) if (c) cracks++;
            int[] all = {dust.size(), cracks, week, rules.size(), tape.length(), rule};
            return what < 0 || what > 5 ? BAD : all[what];
        }

        long sheet(int sheet, int sort, int n) {
            if (sheet < 0 || sheet > 3 || sort < -1 || sort > 2) return BAD;
            if (sort >= 0 && n > 40) return BAD;
            if (sort >= 0 && n < 0) return -14;
            rows[sheet] = sort < 0 ? null : new Row(sort, n);
            return 1;
        }

        long cell(int sheet, int i, int v) {
            if (sheet < 0 || sheet > 3) return BAD;
            Row r = rows[sheet];
            if (r == null) return -11;
            if (i < 0 || i >= r.v.length) return -12;
            r.v[i] = r.sort == 0 ? (byte) v : r.sort == 1 ? (short) v : v;
            return 1;
        }

        long copy(int sheet, int i, int other, int j, int n) {
            if (sheet < 0 || sheet > 3 || other < 0 || other > 3) return BAD;
            if (rows[sheet] == null || rows[other] == null) return -11;
            if (rows[sheet].sort != rows[other].sort) return -13;
            int[] as = rows[sheet].v.clone();
            try {
                System.arraycopy(as, i, rows[other].v, j, n);
                return n;
            } catch (IndexOutOfBoundsException e) {
                return -12;
            }
        }

        long heap(int sheet, int sort, int from, int n) {
            if (sheet < 0 || sheet > 3 || sort < 0 || sort > 2 || n < 0 || n > 8) return BAD;
            if (rows[sheet] != null && rows[sheet].sort != sort) return -13;
            if (rows[sheet] == null) return -11;
            int[] v = rows[sheet].v;
            int came = 0;
            for (long i = from; i < from + 3L * n; i += 3) {
                if (i < 0 || i + 2 >= v.length) return -12;
                if (dust(v[(int) i], v[(int) i + 1], v[(int) i + 2]) >= 0) came++;
            }
            return came;
        }

        long taken(int one, int k) {
            if (k < 0 || k > 5) return BAD;
            if (!has(one)) return -11;
            return classOf(k).isInstance(dust.get(one)) ? dust.get(one).number : -13;
        }
    }

    // ---- the runs

    static final String[] PIECES = {"goes", "frees", "draws", "or", "and", "not", "force", "number", "row", "column", "kin",
        "week", "(", ")", ";", "+", "-", "*", "<", "=", "0", "7", "9999", "12345", "x", "A", " ", "\n", "\t", "not", "(", "-"};

    static String expression(Random r, int depth) {
        switch (r.nextInt(depth <= 0 ? 3 : 13)) {
            case 0: return "" + r.nextInt(10);
            case 1: case 2: return PIECES[6 + r.nextInt(6)];
            case 3: return "(" + expression(r, depth - 1) + ")";
            case 4: return "-" + expression(r, depth - 1);
            case 5: return "not " + expression(r, depth - 1);
            case 6: return expression(r, depth - 1) + " or " + expression(r, depth - 1);
            case 7: return expression(r, depth - 1) + " and " + expression(r, depth - 1);
            case 8: return expression(r, depth - 1) + "<" + expression(r, depth - 1);
            case 9: return expression(r, depth - 1) + "=" + expression(r, depth - 1);
            case 10: return expression(r, depth - 1) + "+" + expression(r, depth - 1);
            case 11: return expression(r, depth - 1) + "-" + expression(r, depth - 1);
            default: return expression(r, depth - 1) + "*" + expression(r, depth - 1);
        }
    }

    static String randomText(Random r) {
        String s = "goes " + expression(r, r.nextInt(6)) + ";frees " + expression(r, 2) + ";draws " + expression(r, 2) + ";";
        int changes = r.nextInt(4) == 0 ? 1 + r.nextInt(2) : 0;
        for (int i = 0; i < changes; i++) {
            int p = r.nextInt(s.length() + 1);
            s = s.substring(0, p) + PIECES[r.nextInt(PIECES.length)] + s.substring(Math.min(s.length(), p + r.nextInt(4)));
        }
        return s.length() > 160 ? s.substring(0, 160) : s;
    }

    static int any(Random r) {
        int[] odd = {-1, -2, 36, 1000, Integer.MIN_VALUE, Integer.MAX_VALUE, Integer.MAX_VALUE - 2, 40, 41, r.nextInt()};
        return r.nextInt(5) == 0 ? odd[r.nextInt(odd.length)] : r.nextInt(11);
    }

    /** Mostly a number that the call takes, now and then another. */
    static int near(Random r, int least, int most) {
        return r.nextInt(25) == 0 ? any(r) : r.nextInt(20) == 0 ? most + 1 : least + r.nextInt(most - least + 1);
    }

    static void due(String call, long got, long want) {
        if (got != want) {
            System.out.println(call + " answered " + got + ", due is " + want);
            System.exit(1);
        }
    }

    static void feedAll(KinInTheHeap x, Model m, String s) {
        for (char c : s.toCharArray()) due("feed " + c, x.feed(c), m.feed(c));
    }

    static void strokesSheet(Random r, KinInTheHeap x, Model m) {
        int sheet = r.nextInt(4), n = r.nextInt(7), sort = r.nextInt(3);
        due("sheet", x.sheet(sheet, sort, n), m.sheet(sheet, sort, n));
        for (int i = 0; i < n; i++) {
            int s = near(r, 0, 23);
            due("cell", x.cell(sheet, i, s), m.cell(sheet, i, s));
        }
    }

    static void dustSheet(Random r, KinInTheHeap x, Model m) {
        int sheet = r.nextInt(4), n = r.nextInt(14), sort = r.nextInt(3);
        due("sheet", x.sheet(sheet, sort, n), m.sheet(sheet, sort, n));
        for (int i = 0; i < n; i++) {
            int v = near(r, 0, i % 3 == 0 ? 5 : i % 3 == 1 ? 9 : 35);
            due("cell", x.cell(sheet, i, v), m.cell(sheet, i, v));
        }
        int from = near(r, 0, 5), many = near(r, 0, 3);
        due("heap", x.heap(sheet, sort, from, many), m.heap(sheet, sort, from, many));
    }

    static void told(Random r, KinInTheHeap x, Model m) {
        int sheet = r.nextInt(4), one = near(r, 0, 7), of = near(r, 0, 7);
        if (r.nextInt(3) != 0) due("film", x.film(sheet, one), m.film(sheet, one));
        if (r.nextInt(4) == 0) due("cell", x.cell(sheet, 3, 2), m.cell(sheet, 3, 2));
        if (r.nextInt(3) == 0) {
            int n = r.nextInt(4);
            due("sheet", x.sheet((sheet + 1) % 4, 0, n), m.sheet((sheet + 1) % 4, 0, n));
            due("copy", x.copy(sheet, 0, (sheet + 1) % 4, 0, n), m.copy(sheet, 0, (sheet + 1) % 4, 0, n));
            sheet = (sheet + 1) % 4;
        }
        for (int what = -1; what < 8; what++) due("tells " + what, x.tells(sheet, of, what), m.tells(sheet, of, what));
        due("places", x.places(sheet, of), m.places(sheet, of));
    }

    static void look(KinInTheHeap x, Model m) {
        for (int d = -1; d < 9; d++) for (int w = 3; w < 10; w++) due("told " + d + " " + w, x.told(d, w), m.told(d, w));
        for (int c = -1; c < 37; c++) due("told " + c + " 10", x.told(c, 10), m.told(c, 10));
        for (int w = -1; w < 7; w++) due("count " + w, x.count(w), m.count(w));
        for (int w = -1; w < 6; w++) due("floor " + w, x.floor(w), m.floor(w));
        for (int w = -1; w < 3; w++) due("where " + w, x.where(w), m.where(w));
        due("told 1", x.told(99, 1), m.told(99, 1));
    }

    static void call(Random r, KinInTheHeap x, Model m) {
        int p, q, s, t, u;
        switch (r.nextInt(36)) {
            case 0: p = near(r, 0, 2); q = near(r, 0, 35); s = p == 0 ? near(r, 0, 999) : near(r, 0, p == 1 ? 9 : 1);
                due("set", x.set(p, q, s), m.set(p, q, s)); break;
            case 1: p = near(r, 3, 4); q = near(r, 0, 7); s = near(r, -1, p == 3 ? 9 : 35);
                due("set", x.set(p, q, s), m.set(p, q, s)); break;
            case 2: case 3: p = near(r, 0, 5); q = near(r, 0, 9); s = near(r, 0, 35);
                due("dust", x.dust(p, q, s), m.dust(p, q, s)); break;
            case 4: p = any(r); q = near(r, 0, 10); due("told", x.told(p, q), m.told(p, q)); break;
            case 5: feedAll(x, m, randomText(r)); due("text", x.text(), m.text()); break;
            case 6: p = near(r, 0, 5); due("force", x.force(p), m.force(p)); break;
            case 7: case 8: p = near(r, 0, 23);
                due("stroke", x.stroke(p), p < 0 || p > 23 ? BAD : m.stroke(p)); break;
            case 9: case 10: due("week", x.week(), m.week()); break;
            case 11: strokesSheet(r, x, m); break;
            case 12: case 13: p = near(r, 0, 3); q = near(r, 0, r.nextBoolean() ? 3 : 17);
                due("sweep", x.sweep(p, q), m.sweep(p, q)); break;
            case 14: p = near(r, 0, 3); due("sweeps", x.sweeps(p), m.sweeps(p)); break;
            case 15: p = near(r, 0, 4); due("floor", x.floor(p), m.floor(p)); break;
            case 16: p = near(r, 10, 17); due("where", x.where(p), m.where(p)); break;
            case 17: p = near(r, 0, 255) & near(r, 0, 255); q = near(r, 0, 1); p = r.nextBoolean() ? p & 7 : p;
                due("gather", x.gather(p, q), m.gather(p, q)); break;
            case 18: p = near(r, 0, 5); due("best " + p, x.best(p), m.best(p)); break;
            case 19: p = near(r, 0, 23); q = near(r, 0, 1); due("save", x.save(p, q), m.save(p, q)); break;
            case 20: p = near(r, 0, 7); q = near(r, 0, 40); due("lasts", x.lasts(p, q), m.lasts(p, q)); break;
            case 21: p = near(r, 0, 1); due("share", x.share(p), m.share(p)); break;
            case 22: case 23: told(r, x, m); break;
            case 24: p = r.nextInt(); q = near(r, 0, 40); due("drawn", x.drawn(p, q), m.drawn(p, q)); break;
            case 25: p = r.nextInt(); q = near(r, 1, 20); s = near(r, 0, 8); t = near(r, 0, 1);
                due("chance", x.chance(p, q, s, t), m.chance(p, q, s, t)); break;
            case 26: due("image", x.image(), m.image()); break;
            case 27: due("back", x.back(), m.back()); break;
            case 28: look(x, m); break;
            case 29: p = near(r, 0, 3); q = near(r, -1, 2); s = near(r, 0, 40); due("sheet", x.sheet(p, q, s), m.sheet(p, q, s)); break;
            case 30: p = near(r, 0, 3); q = any(r); s = any(r); due("cell", x.cell(p, q, s), m.cell(p, q, s)); break;
            case 31: p = near(r, 0, 3); q = near(r, 0, 3); s = near(r, 0, 3); t = near(r, 0, 3); u = near(r, 0, 3);
                due("copy", x.copy(p, q, s, t, u), m.copy(p, q, s, t, u)); break;
            case 32: dustSheet(r, x, m); break;
            case 33: p = near(r, 0, 3); q = near(r, 0, 2); s = any(r); t = near(r, 0, 8);
                due("heap", x.heap(p, q, s, t), m.heap(p, q, s, t)); break;
            case 34: p = near(r, 0, 7); q = near(r, 0, 5); due("taken", x.taken(p, q), m.taken(p, q)); break;
            default: p = any(r); due("feed", x.feed(p), m.feed(p)); break;
        }
    }

    public static void main(String[] args) {
        for (int run = 0; run < 1500; run++) {
            Random r = new Random(run);
            KinInTheHeap x = new KinInTheHeap();
            Model m = new Model();
            for (int i = 0; i < 150; i++) {
                call(r, x, m);
            }
            look(x, m);
        }
        System.out.println("1500 runs go as the model");
    }
}
