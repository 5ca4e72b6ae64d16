import java.util.ArrayList;
import java.util.List;
import java.util.NoSuchElementException;

/** The document read a second time, as plainly as can be and without thrift: what MoonWash is compared with. */
public final class Model {
    static final class Part {
        int grey, thin, wet, stains, peg;
        boolean hung = true;

        Part copy() {
            Part p = new Part();
            p.grey = grey;
            p.thin = thin;
            p.wet = wet;
            p.stains = stains;
            p.peg = peg;
            p.hung = hung;
            return p;
        }
    }

    static final class LawLine {
        String kind;
        int n;
        List<String> condition = new ArrayList<>();
    }

    static final class All {
        Part[] parts = new Part[8];
        int[] wind = {3, 3, 3, 3, 3, 3, 3, 3};
        List<int[]> soaps = new ArrayList<>();
        List<int[]> dues = new ArrayList<>();
        int water = 30, spring = 5, wolves, thieves, night, damp, seed = 1, texts;
        List<LawLine> law;
        List<int[]> log = new ArrayList<>();

        All() {
            for (int i = 0; i < 8; i++) {
                parts[i] = new Part();
                parts[i].peg = i;
            }
        }

        All copy() {
            All a = new All();
            for (int i = 0; i < 8; i++) {
                a.parts[i] = parts[i].copy();
            }
            a.wind = wind.clone();
            a.soaps = new ArrayList<>(soaps);
            a.dues = new ArrayList<>(dues);
            a.water = water;
            a.spring = spring;
            a.wolves = wolves;
            a.thieves = thieves;
            a.night = night;
            a.damp = damp;
            a.seed = seed;
            a.texts = texts;
            a.law = law;
            a.log = new ArrayList<>(log);
            return a;
        }

        int sum(String kind, int i) {
            int sum = 0;
            if (law != null) {
                for (LawLine line : law) {
                    if (line.kind.equals(kind) && (line.condition.isEmpty() || new Judge(line.condition, this, i).holds())) {
                        sum += line.n;
                    }
                }
            }
            return sum;
        }

        int white(int i) {
            int w = 9 + sum("shine", i) - sum("dull", i) - parts[i].grey - Integer.bitCount(parts[i].stains);
            return w < 0 ? 0 : w > 20 ? 20 : w;
        }

        int light(int i) {
            return parts[i].hung && parts[i].wet == 0 ? white(i) : 0;
        }

        int light() {
            int sum = 0;
            for (int i = 0; i < 8; i++) {
                sum += light(i);
            }
            return sum;
        }

        int dries(int i) {
            return Math.max(0, wind[parts[i].peg] + sum("dry", i) - (int) Math.floor(damp / 3.0));
        }

        void air() {
            for (int i = 0; i < 8; i++) {
                Part p = parts[i];
                if (p.hung && p.wet > 0) {
                    p.wet = Math.max(0, p.wet - dries(i));
                } else if (p.hung) {
                    p.grey = Math.min(9, p.grey + sum("soil", i));
                }
            }
        }

        int draw() {
            seed = (int) (1103515245L * seed + 12345L);
            return (int) ((seed & 0xffffffffL) / 65536 % 32768);
        }

        void nightWithDraws() {
            damp = draw() % 10;
            air();
            if (draw() % 100 < wolves) {
                Part p = parts[draw() % 8];
                int kind = draw() % 5;
                if (p.hung) {
                    p.stains |= 1 << kind;
                }
            }
            if (draw() % 100 < thieves) {
                Part p = parts[draw() % 8];
                if (p.hung) {
                    p.hung = false;
                    p.grey = 9;
                }
            }
            water = Math.min(99, water + spring);
            night++;
        }

        All later(int n, int told) {
            All a = copy();
            for (int i = 0; i < n; i++) {
                a.damp = told;
                a.air();
                a.night++;
            }
            return a;
        }

        All washed(int i, int s) {
            All a = copy();
            Part p = a.parts[i];
            int[] soap = soaps.get(s);
            p.grey = Math.max(0, p.grey - soap[0]);
            p.stains &= ~soap[3];
            p.thin = Math.min(9, p.thin + 1 + soap[2]);
            p.wet = 9;
            p.hung = false;
            return a;
        }

        int whiteOnLine(int i) {
            All a = copy();
            a.parts[i].wet = 0;
            a.parts[i].hung = true;
            return a.white(i);
        }

        int taken(int set) {
            int kinds = 0;
            for (int s = 0; s < soaps.size(); s++) {
                kinds |= (set >> s & 1) == 1 ? soaps.get(s)[3] : 0;
            }
            return kinds;
        }
    }

    /** Judges a condition from its words each time anew. */
    static final class Judge {
        final List<String> words;
        final All all;
        final int i;
        int at;

        Judge(List<String> words, All all, int i) {
            this.words = words;
            this.all = all;
            this.i = i;
        }

        boolean holds() {
            boolean h = every();
            while (is("or")) {
                at++;
                h = every() || h;
            }
            return h;
        }

        boolean every() {
            boolean h = atom();
            while (is("and")) {
                at++;
                h = atom() && h;
            }
            return h;
        }

        boolean is(String word) {
            return at < words.size() && words.get(at).equals(word);
        }

        boolean atom() {
            if (is("not")) {
                at++;
                return !atom();
            }
            if (is("(")) {
                at++;
                boolean h = holds();
                at++;
                return h;
            }
            if (is("full")) {
                at++;
                return all.night % 28 == 14;
            }
            if (is("hung")) {
                at++;
                return all.parts[i].hung;
            }
            int left = sum();
            boolean less = is("<");
            at++;
            int right = sum();
            return less ? left < right : left > right;
        }

        int sum() {
            int sum = term();
            while (is("+")) {
                at++;
                sum += term();
            }
            return sum;
        }

        int term() {
            String w = words.get(at++);
            switch (w) {
                case "part": return i;
                case "grey": return all.parts[i].grey;
                case "thin": return all.parts[i].thin;
                case "wet": return all.parts[i].wet;
                case "stains": return Integer.bitCount(all.parts[i].stains);
                case "wind": return all.wind[all.parts[i].peg];
                case "damp": return all.damp;
                case "night": return all.night;
                default: return Integer.parseInt(w);
            }
        }
    }

    private List<Integer> tape = new ArrayList<>();
    private int fault = -1;
    private All all = new All();
    private All image;
    private List<All> past = new ArrayList<>();

    public int feed(int a, int b, int c, int d, int e) {
        if (tape.size() + 20 > 400) {
            return -1;
        }
        for (int n : new int[] {a, b, c, d, e}) {
            for (byte x : java.nio.ByteBuffer.allocate(4).putInt(n).array()) {
                tape.add(x & 255);
            }
        }
        return tape.size();
    }

    public boolean end(int n) {
        if (n < 0 || n > tape.size()) {
            return false;
        }
        tape = new ArrayList<>(tape.subList(0, n));
        return true;
    }

    private String text() {
        StringBuilder b = new StringBuilder();
        for (int x : tape) {
            b.append((char) x);
        }
        tape.clear();
        return b.toString();
    }

    private static List<List<String>> lines(String text) {
        List<List<String>> lines = new ArrayList<>();
        for (Grammar.Token t : Grammar.cut(text)) {
            if (lines.isEmpty() || t.text.equals(";")) {
                lines.add(new ArrayList<>());
            }
            if (!t.text.equals(";")) {
                lines.get(lines.size() - 1).add(t.text);
            }
        }
        return lines;
    }

    private static int kinds(List<String> line, int at) {
        int kinds = 0;
        for (int i = 0; at < line.size() && i < line.get(at).length(); i++) {
            kinds |= 1 << line.get(at).charAt(i) - 'a';
        }
        return kinds;
    }

    public int house() {
        String text = text();
        fault = Grammar.wrongInHouse(text, all.soaps.size(), all.dues.size());
        if (fault != -1) {
            throw new IllegalArgumentException();
        }
        if (all.texts == 12) {
            throw new UnsupportedOperationException();
        }
        for (List<String> line : lines(text)) {
            int n = Integer.parseInt(line.get(1));
            switch (line.get(0)) {
                case "soap": all.soaps.add(new int[] {n, Integer.parseInt(line.get(3)), Integer.parseInt(line.get(5)), kinds(line, 7)}); break;
                case "due": all.dues.add(new int[] {n, Integer.parseInt(line.get(3))}); break;
                case "wind": all.wind[n] = Integer.parseInt(line.get(2)); break;
                case "spring": all.spring = n; break;
                case "water": all.water = n; break;
                case "wolves": all.wolves = n; break;
                case "thieves": all.thieves = n; break;
                default:
                    all.parts[n].grey = Integer.parseInt(line.get(3));
                    all.parts[n].thin = Integer.parseInt(line.get(5));
                    all.parts[n].stains = kinds(line, 7);
            }
        }
        past.clear();
        return ++all.texts;
    }

    public int law() {
        String text = text();
        fault = Grammar.wrongInLaw(text);
        if (fault != -1) {
            throw new IllegalArgumentException();
        }
        all.law = new ArrayList<>();
        for (List<String> line : lines(text)) {
            LawLine l = new LawLine();
            l.kind = line.get(0);
            l.n = Integer.parseInt(line.get(1));
            l.condition = line.subList(Math.min(3, line.size()), line.size());
            all.law.add(l);
        }
        past.clear();
        return all.law.size();
    }

    public int fault() {
        return fault;
    }

    private void needPart(int part) {
        if (part < 0 || part > 7) {
            throw new IndexOutOfBoundsException();
        }
    }

    private void needSoap(int soap) {
        if (soap < 0 || soap >= all.soaps.size()) {
            throw new IndexOutOfBoundsException();
        }
    }

    private void need(boolean right) {
        if (!right) {
            throw new IllegalArgumentException();
        }
    }

    public int part(int part, int what) {
        needPart(part);
        Part p = all.parts[part];
        switch (what) {
            case 0: return p.grey;
            case 1: return p.thin;
            case 2: return p.wet;
            case 3: return p.stains;
            case 4: return p.hung ? 1 : 0;
            case 5: return p.peg;
            case 6: return all.light(part);
            case 7: return all.white(part);
            case 8: return all.dries(part);
            case 9: return all.light() == 0 ? 0 : 100 * all.light(part) / all.light();
            case 10: return p.stains & ~all.taken(63);
            default: throw new NoSuchElementException();
        }
    }

    public int soap(int soap, int what) {
        needSoap(soap);
        if (what < 0 || what > 3) {
            throw new NoSuchElementException();
        }
        return all.soaps.get(soap)[what];
    }

    private int partAt(int peg) {
        int i = 0;
        while (all.parts[i].peg != peg) {
            i++;
        }
        return i;
    }

    public int peg(int peg, boolean part) {
        needPart(peg);
        return part ? partAt(peg) : all.wind[peg];
    }

    public int due(int k, boolean light) {
        if (k < 0 || k >= all.dues.size()) {
            throw new IndexOutOfBoundsException();
        }
        return all.dues.get(k)[light ? 1 : 0];
    }

    private void act() {
        past.add(all.copy());
        if (past.size() > 12) {
            past.remove(0);
        }
    }

    public int wash(int part, int soap) {
        needPart(part);
        needSoap(soap);
        int price = all.soaps.get(soap)[1];
        if (all.water < price) {
            throw new IllegalStateException();
        }
        act();
        int before = all.parts[part].stains;
        all = all.washed(part, soap);
        all.water -= price;
        int out = before & ~all.parts[part].stains;
        all.log.add(new int[] {all.night, part, soap, out});
        if (all.log.size() > 60) {
            all.log.remove(0);
        }
        return out;
    }

    public boolean hang(int part, boolean hung) {
        needPart(part);
        act();
        boolean was = all.parts[part].hung;
        all.parts[part].hung = hung;
        return was != hung;
    }

    public int darn(int part) {
        needPart(part);
        if (all.water < 2) {
            throw new IllegalStateException();
        }
        act();
        all.water -= 2;
        return all.parts[part].thin = Math.max(0, all.parts[part].thin - 3);
    }

    public int move(int part, int peg) {
        needPart(part);
        needPart(peg);
        act();
        int other = partAt(peg);
        int was = all.parts[part].peg;
        all.parts[other].peg = was;
        all.parts[part].peg = peg;
        return other;
    }

    public int drop(int soap) {
        needSoap(soap);
        act();
        all.soaps.remove(soap);
        return all.soaps.size();
    }

    public int nights(int n) {
        need(n >= 1 && n <= 60);
        act();
        int dried = 0;
        for (int k = 0; k < n; k++) {
            All before = all.copy();
            all.nightWithDraws();
            for (int i = 0; i < 8; i++) {
                dried += before.parts[i].wet > 0 && all.parts[i].wet == 0 ? 1 : 0;
            }
        }
        return dried;
    }

    public int shines() {
        int bits = 0;
        for (int i = 0; i < 8; i++) {
            bits |= all.light(i) > 0 ? 1 << i : 0;
        }
        return bits;
    }

    public int light() {
        return all.light();
    }

    private int wouldBe(int part, int soap) {
        return (soap < 0 ? all : all.washed(part, soap)).whiteOnLine(part);
    }

    public int would(int part, int soap) {
        needPart(part);
        needSoap(soap);
        return wouldBe(part, soap);
    }

    public int best(int part) {
        needPart(part);
        int best = -1;
        long bestRank = -1;
        for (int s = 0; s < all.soaps.size(); s++) {
            long rank = wouldBe(part, s) * 1000L - all.soaps.get(s)[1] * 10L - s + 500;
            if (best < 0 || rank > bestRank) {
                best = s;
                bestRank = rank;
            }
        }
        return best;
    }

    public int least(int light, int part) {
        if (part != -1) {
            needPart(part);
        }
        need(light >= 0 && light <= 160);
        int n = all.soaps.size();
        int[][] white = new int[8][n + 1];
        int[] price = new int[n + 1];
        for (int i = 0; i < 8; i++) {
            for (int c = 0; c <= n; c++) {
                white[i][c] = wouldBe(i, c - 1);
                price[c] = c == 0 ? 0 : all.soaps.get(c - 1)[1];
            }
        }
        // most[i][w]: the most WHITE that the parts from i on can have for w of water exactly.
        int[][] most = new int[9][241];
        java.util.Arrays.fill(most[8], -9999);
        most[8][0] = 0;
        for (int i = 7; i >= 0; i--) {
            for (int w = 0; w <= 240; w++) {
                most[i][w] = -9999;
                for (int c = 0; c <= n; c++) {
                    if (price[c] <= w) {
                        most[i][w] = Math.max(most[i][w], white[i][c] + most[i + 1][w - price[c]]);
                    }
                }
            }
        }
        for (int w = 0; w <= 240; w++) {
            if (most[0][w] >= light) {
                return part == -1 ? w : firstWay(white, price, most, w, light, part);
            }
        }
        return -1;
    }

    private static int firstWay(int[][] white, int[] price, int[][] most, int water, int light, int part) {
        int had = 0;
        for (int i = 0; i < 8; i++) {
            for (int c = 0; c < price.length; c++) {
                if (price[c] <= water && had + white[i][c] + most[i + 1][water - price[c]] >= light) {
                    if (i == part) {
                        return c - 1;
                    }
                    had += white[i][c];
                    water -= price[c];
                    break;
                }
            }
        }
        throw new AssertionError();
    }

    public int soaps(int part) {
        needPart(part);
        int out = all.parts[part].stains & all.taken(63);
        for (int size = 0; size <= 6; size++) {
            for (int set = 0; set < 1 << all.soaps.size(); set++) {
                if (Integer.bitCount(set) == size && (out & all.taken(set)) == out) {
                    return set;
                }
            }
        }
        throw new AssertionError();
    }

    public int washes(int part, int soap) {
        needPart(part);
        needSoap(soap);
        int grey = all.parts[part].grey;
        for (int times = 0; times <= 9; times++) {
            if (grey <= 0) {
                return times;
            }
            grey -= all.soaps.get(soap)[0];
        }
        return -1;
    }

    public int soonest(int damp, int part) {
        if (part != -1) {
            needPart(part);
        }
        need(damp >= 0 && damp <= 9);
        int[][] nights = new int[8][8];
        for (int i = 0; i < 8; i++) {
            for (int g = 0; g < 8; g++) {
                All a = all.copy();
                a.parts[i].peg = g;
                while (nights[i][g] <= 40 && a.parts[i].hung && a.parts[i].wet > 0) {
                    a = a.later(1, damp);
                    nights[i][g]++;
                }
            }
        }
        int[] best = null;
        int[] way = new int[8];
        int[] found = tryWays(nights, way, 0, 0, 0, best);
        return found == null ? -1 : part == -1 ? found[8] : found[part];
    }

    /** All ways, the first ones first; the first of the best stays. */
    private static int[] tryWays(int[][] nights, int[] way, int i, int given, int longest, int[] best) {
        if (longest > 40) {
            return best;
        }
        if (i == 8) {
            if (best == null || longest < best[8]) {
                best = java.util.Arrays.copyOf(way, 9);
                best[8] = longest;
            }
            return best;
        }
        for (int g = 0; g < 8; g++) {
            if ((given >> g & 1) == 0) {
                way[i] = g;
                best = tryWays(nights, way, i + 1, given | 1 << g, Math.max(longest, nights[i][g]), best);
            }
        }
        return best;
    }

    public int dried(int part, int damp) {
        needPart(part);
        need(damp >= 0 && damp <= 9);
        for (int n = 0; n <= 40; n++) {
            if (all.later(n, damp).parts[part].wet == 0) {
                return n;
            }
        }
        return -1;
    }

    public int ahead(int part, int n, int damp, int what) {
        needPart(part);
        need(n >= 0 && n <= 40 && damp >= 0 && damp <= 9);
        if (what < 0 || what > 2) {
            throw new NoSuchElementException();
        }
        All a = all.later(n, damp);
        return what == 0 ? a.parts[part].wet : what == 1 ? a.parts[part].grey : a.light(part);
    }

    private List<Integer> fitting() {
        List<Integer> told = new ArrayList<>(tape);
        tape.clear();
        need(told.size() <= 40 && told.size() % 2 == 0);
        List<Integer> sets = new ArrayList<>();
        for (int i = 0; i < told.size(); i += 2) {
            need(told.get(i) < all.soaps.size() && told.get(i + 1) <= 1);
        }
        for (int set = 0; set < 32; set++) {
            boolean fits = true;
            for (int i = 0; i < told.size(); i += 2) {
                boolean left = (set & ~all.soaps.get(told.get(i))[3]) != 0;
                fits &= left == (told.get(i + 1) == 1);
            }
            if (fits) {
                sets.add(set);
            }
        }
        return sets;
    }

    public int stained(boolean sure) {
        List<Integer> sets = fitting();
        int in = 31;
        for (int set : sets) {
            in &= set;
        }
        return !sure ? sets.size() : sets.isEmpty() ? 0 : in;
    }

    public int tries() {
        List<Integer> sets = fitting();
        int best = -1;
        long bestPart = 99;
        for (int s = 0; s < all.soaps.size() && sets.size() >= 2; s++) {
            int takes = all.soaps.get(s)[3];
            long none = sets.stream().filter(set -> (set & ~takes) == 0).count();
            long part = Math.max(none, sets.size() - none);
            if (part < bestPart) {
                best = s;
                bestPart = part;
            }
        }
        return best;
    }

    public int watch() {
        for (int size = 0; size <= 8; size++) {
            for (int pegs = 0; pegs < 256; pegs++) {
                boolean sees = Integer.bitCount(pegs) == size;
                for (Part p : all.parts) {
                    boolean near = false;
                    for (int g = Math.max(0, p.peg - 1); g <= Math.min(7, p.peg + 1); g++) {
                        near |= (pegs >> g & 1) == 1;
                    }
                    sees &= near || !p.hung;
                }
                if (sees) {
                    return pegs;
                }
            }
        }
        throw new AssertionError();
    }

    public int row() {
        int most = 0;
        for (int from = 0; from < 8; from++) {
            int n = 0;
            while (n < 8 && all.light((from + n) % 8) > 0) {
                n++;
            }
            most = Math.max(most, n);
        }
        return most;
    }

    public int darkest() {
        int found = 0;
        for (int i = 7; i >= 0; i--) {
            found = i == 7 || all.light(i) <= all.light(found) ? i : found;
        }
        return found;
    }

    public int tide(int light, int damp) {
        need(light >= 0 && light <= 160 && damp >= 0 && damp <= 9);
        for (int n = 0; n <= 40; n++) {
            if (all.later(n, damp).light() >= light) {
                return n;
            }
        }
        return -1;
    }

    public int late(int damp) {
        need(damp >= 0 && damp <= 9);
        int bits = 0;
        for (int k = 0; k < all.dues.size(); k++) {
            int n = all.dues.get(k)[0] - all.night;
            if (n >= 0 && n <= 40 && all.later(n, damp).light() < all.dues.get(k)[1]) {
                bits |= 1 << k;
            }
        }
        return bits;
    }

    public int enough(int water) {
        need(water >= 0 && water <= 99);
        int has = all.water;
        for (int n = 0; n <= 99; n++) {
            if (has >= water) {
                return n;
            }
            has = Math.min(99, has + all.spring);
        }
        return -1;
    }

    public int wears(int part, int soap) {
        needPart(part);
        needSoap(soap);
        int times = 0;
        for (All a = all; a.parts[part].thin < 9; times++) {
            a = a.washed(part, soap);
        }
        return times;
    }

    public int like() {
        int n = 0;
        for (int i = 0; i < 8 && image != null; i++) {
            n += image.light(i) == all.light(i) ? 1 : 0;
        }
        return image == null ? -1 : n;
    }

    public int halves() {
        int found = 0;
        int nearest = 1000;
        for (int k = 0; k < 8; k++) {
            int one = 0;
            int other = 0;
            for (int i = 0; i < 8; i++) {
                one += i < 4 ? all.light((k + i) % 8) : 0;
                other += i < 4 ? 0 : all.light((k + i) % 8);
            }
            if (Math.abs(one - other) < nearest) {
                nearest = Math.abs(one - other);
                found = k;
            }
        }
        return found;
    }

    private All tried(int n, int seed) {
        All a = all.copy();
        a.seed = seed;
        for (int i = 0; i < n; i++) {
            a.nightWithDraws();
        }
        return a;
    }

    public int trial(int n, boolean stains) {
        need(n >= 0 && n <= 40);
        All a = tried(n, all.seed);
        int sum = 0;
        for (Part p : a.parts) {
            sum += Integer.bitCount(p.stains);
        }
        return stains ? sum : a.light();
    }

    public int span(int n, boolean most) {
        need(n >= 0 && n <= 40);
        List<Integer> lights = new ArrayList<>();
        for (int seed = 1; seed <= 6; seed++) {
            lights.add(tried(n, seed).light());
        }
        return most ? java.util.Collections.max(lights) : java.util.Collections.min(lights);
    }

    public int led(int part, boolean soap) {
        needPart(part);
        int often = 0;
        int latest = -1;
        for (int[] row : all.log) {
            if (row[1] == part) {
                often++;
                latest = row[2];
            }
        }
        return soap ? latest : often;
    }

    public int log(int ago, int what) {
        if (what < 0 || what > 3) {
            throw new NoSuchElementException();
        }
        return ago < 0 || ago >= all.log.size() ? -1 : all.log.get(all.log.size() - 1 - ago)[what];
    }

    public int seed(int n) {
        int was = all.seed;
        all.seed = n;
        return was;
    }

    public boolean undo() {
        if (past.isEmpty()) {
            return false;
        }
        all = past.remove(past.size() - 1);
        return true;
    }

    public void image() {
        image = all.copy();
    }

    public boolean back() {
        if (image == null) {
            return false;
        }
        all = image.copy();
        past.clear();
        return true;
    }

    public int count(int what) {
        int hung = 0;
        int wet = 0;
        for (int i = 0; i < 8; i++) {
            hung |= all.parts[i].hung ? 1 << i : 0;
            wet |= all.parts[i].wet > 0 ? 1 << i : 0;
        }
        int[] counts = {all.soaps.size(), all.dues.size(), all.texts, all.law == null ? -1 : all.law.size(), all.night,
            all.damp, all.water, all.spring, all.wolves, all.thieves, hung, wet, all.log.size(), past.size()};
        return what < 0 || what > 13 ? -1 : counts[what];
    }
}
