import java.util.ArrayList;
import java.util.Arrays;
import java.util.List;
import java.util.Random;

// Long runs of calls, made from fixed seeds, against a second program that is written as plainly
// as the document: it holds lists, tries all rows, and works everything out anew for each question.
public final class ModelTest {
    private static final int BAD = -1, NO = -2, FULL = -3, THROWS = -99;

    private static final class Token {
        final int value, back, many;

        Token(int value, int back, int many) {
            this.value = value;
            this.back = back;
            this.many = many;
        }
    }

    private static final class Pack {
        final int kind;
        final List<Integer> members = new ArrayList<>();
        List<Token> tokens = new ArrayList<>();
        int made = 0;

        Pack(int kind) {
            this.kind = kind;
        }
    }

    private static final class Model {
        final List<Integer> kinds = new ArrayList<>();
        final List<List<Integer>> bytes = new ArrayList<>();
        List<Pack> packs = null;
        int[] twin = new int[30];
        int bound;
        int bestSum;
        List<Integer> bestRow;

        boolean has(int e) {
            return e >= 0 && e < kinds.size();
        }

        boolean hasByte(int e, int i) {
            return has(e) && i >= 0 && i < bytes.get(e).size();
        }

        int entry(int kind) {
            if (kind < 0 || kind > 5) return BAD;
            if (kinds.size() == 30) return FULL;
            kinds.add(kind);
            bytes.add(new ArrayList<>());
            packs = null;
            return kinds.size() - 1;
        }

        int octets(int e, int n, long number) {
            if (!has(e) || n < 1 || n > 8) return BAD;
            if (bytes.get(e).size() + n > 60) return FULL;
            long left = number;
            for (int k = 0; k < n; k++) {
                bytes.get(e).add((int) Math.floorMod(left, 256L));
                left = Math.floorDiv(left, 256L);
            }
            packs = null;
            return bytes.get(e).size();
        }

        int[] marks(int e) {
            int[] of = new int[32];
            List<Integer> b = bytes.get(e);
            for (int i = 2; i < b.size(); i++) of[(7 * b.get(i - 2) + 5 * b.get(i - 1) + 3 * b.get(i)) % 32]++;
            return of;
        }

        int common(int a, int b) {
            if (!has(a) || !has(b)) return BAD;
            int[] x = marks(a), y = marks(b);
            int n = 0;
            for (int m = 0; m < 32; m++) n += x[m] < y[m] ? x[m] : y[m];
            return n;
        }

        int share(int a, int b) {
            if (!has(a) || !has(b)) return BAD;
            int all = Arrays.stream(marks(a)).sum() + Arrays.stream(marks(b)).sum() - common(a, b);
            return all == 0 ? THROWS : 100 * common(a, b) / all;
        }

        int distance(int a, int b) {
            if (!has(a) || !has(b)) return BAD;
            int[] x = marks(a), y = marks(b);
            int n = Math.abs(bytes.get(a).size() - bytes.get(b).size());
            for (int m = 0; m < 32; m++) n += Math.abs(x[m] - y[m]);
            return n;
        }

        int sumOf(List<Integer> row) {
            int n = 0;
            for (int i = 1; i < row.size(); i++) n += distance(row.get(i - 1), row.get(i));
            return n;
        }

        void tryRows(List<Integer> row, List<Integer> left, int sum, int[][] far) {
            if (bestRow != null && sum >= bestSum) return;
            if (left.isEmpty()) {
                bestSum = sum;
                bestRow = new ArrayList<>(row);
                return;
            }
            for (int i = 0; i < left.size(); i++) {
                List<Integer> rest = new ArrayList<>(left);
                int next = rest.remove(i);
                int step = row.isEmpty() ? 0 : far[row.get(row.size() - 1)][next];
                row.add(next);
                tryRows(row, rest, sum + step, far);
                row.remove(row.size() - 1);
            }
        }

        List<Integer> best(List<Integer> kept) {
            int[][] far = new int[30][30];
            for (int a : kept) for (int b : kept) far[a][b] = distance(a, b);
            bestRow = null;
            tryRows(new ArrayList<>(), kept, 0, far);
            return bestRow;
        }

        List<Integer> chain(List<Integer> kept) {
            List<Integer> left = new ArrayList<>(kept), row = new ArrayList<>();
            row.add(left.remove(0));
            while (!left.isEmpty()) {
                Integer near = null;
                int last = row.get(row.size() - 1);
                for (Integer e : left) if (near == null || distance(last, e) < distance(last, near)) near = e;
                left.remove(near);
                row.add(near);
            }
            return row;
        }

        int size(Pack p) {
            int n = 0;
            for (int e : p.members) n += bytes.get(e).size();
            return n;
        }

        void makeRow(Pack p) {
            List<Integer> all = new ArrayList<>();
            for (int e : p.members) all.addAll(bytes.get(e));
            p.tokens = new ArrayList<>();
            for (int at = 0; at < all.size(); ) {
                int many = 0, from = 0;
                for (int q = 0; q < at; q++) {
                    int n = 0;
                    while (n < 60 && at + n < all.size() && all.get(q + n).intValue() == all.get(at + n)) n++;
                    if (n >= many) {
                        many = n;
                        from = q;
                    }
                }
                p.tokens.add(many >= 4 ? new Token(-1, at - from, many) : new Token(all.get(at), 0, 1));
                at += many >= 4 ? many : 1;
            }
        }

        int pack(int limit, int way) {
            if (limit < 1 || limit > 400 || way < 0 || way > 2) return BAD;
            bound = limit;
            packs = new ArrayList<>();
            for (int kind = 0; kind < 6; kind++) {
                List<Integer> kept = new ArrayList<>();
                for (int e = 0; e < kinds.size(); e++) {
                    if (kinds.get(e) != kind) continue;
                    twin[e] = e;
                    for (int f = e - 1; f >= 0; f--) {
                        if (kinds.get(f) == kind && bytes.get(e).equals(bytes.get(f))) twin[e] = f;
                    }
                    if (twin[e] == e) kept.add(e);
                }
                if (kept.isEmpty()) continue;
                List<Integer> row = way == 0 ? kept : way == 2 && kept.size() < 8 ? best(kept) : chain(kept);
                Pack latest = null;
                for (int e : row) {
                    if (latest == null || size(latest) + bytes.get(e).size() > limit) {
                        latest = new Pack(kind);
                        packs.add(latest);
                    }
                    latest.members.add(e);
                }
            }
            for (Pack p : packs) makeRow(p);
            return packs.size();
        }

        Pack packOf(int e) {
            for (Pack p : packs) if (p.members.contains(twin[e])) return p;
            throw new IllegalStateException("model: entry in no group");
        }

        int change(int e, int i, int b) {
            if (!hasByte(e, i) || b < 0 || b > 255) return BAD;
            int was = bytes.get(e).get(i);
            if (was == b) return was;
            bytes.get(e).set(i, b);
            if (packs == null) return was;
            List<Integer> twins = new ArrayList<>();
            for (int f = 0; f < kinds.size(); f++) if (f != e && twin[f] == e) twins.add(f);
            Pack home = packOf(e);
            if (twin[e] != e || !twins.isEmpty()) {
                if (twin[e] == e) {
                    home.members.set(home.members.indexOf(e), twins.get(0));
                    for (int f : twins) twin[f] = twins.get(0);
                }
                twin[e] = e;
                int last = 0;
                for (int g = 0; g < packs.size(); g++) if (packs.get(g).kind == kinds.get(e)) last = g;
                home = packs.get(last);
                if (size(home) + bytes.get(e).size() > bound) {
                    home = new Pack(kinds.get(e));
                    packs.add(last + 1, home);
                }
                home.members.add(e);
            }
            makeRow(home);
            home.made++;
            return was;
        }

        List<Integer> wholeOrder() {
            List<Integer> all = new ArrayList<>();
            for (Pack p : packs) all.addAll(p.members);
            return all;
        }

        int order(int i) {
            if (packs == null) return NO;
            return i < 0 || i >= wholeOrder().size() ? BAD : wholeOrder().get(i);
        }

        int ask(int call, int e) {
            if (!has(e)) return BAD;
            if (packs == null) return NO;
            Pack p = packOf(e);
            if (call == 0) return twin[e];
            if (call == 1) return packs.indexOf(p);
            int place = 0;
            for (int f : p.members.subList(0, p.members.indexOf(twin[e]))) place += bytes.get(f).size();
            if (call == 2) return place;
            if (bytes.get(e).isEmpty()) return 0;
            int there = 0, gone = 0;
            for (Token t : p.tokens) {
                if (there >= place + bytes.get(e).size()) break;
                there += t.many;
                gone++;
            }
            return gone;
        }

        int open(int e, int i) {
            if (!hasByte(e, i)) return BAD;
            if (packs == null) return NO;
            List<Integer> all = new ArrayList<>();
            for (Token t : packOf(e).tokens) {
                for (int k = 0; k < t.many; k++) all.add(t.value >= 0 ? t.value : all.get(all.size() - t.back));
            }
            return all.get(ask(2, e) + i);
        }

        int sizeOf(Pack p) {
            int n = 0;
            for (Token t : p.tokens) n += t.value < 0 ? 3 : 1;
            return n;
        }

        int of(int g, int what) {
            if (packs == null) return NO;
            if (g < 0 || g >= packs.size() || what < 0 || what > 5) return BAD;
            Pack p = packs.get(g);
            return new int[] {p.kind, p.members.size(), size(p), p.tokens.size(), sizeOf(p), p.made}[what];
        }

        int token(int g, int i, int what) {
            if (packs == null) return NO;
            if (g < 0 || g >= packs.size() || what < 0 || what > 2) return BAD;
            if (i < 0 || i >= packs.get(g).tokens.size()) return BAD;
            Token t = packs.get(g).tokens.get(i);
            return new int[] {t.value, t.back, t.many}[what];
        }

        int sum(int kind) {
            if (kind < 0 || kind > 5) return BAD;
            if (packs == null) return NO;
            List<Integer> row = wholeOrder();
            row.removeIf(e -> kinds.get(e) != kind);
            return sumOf(row);
        }

        int count(int what) {
            if (what < 0 || what > 3) return BAD;
            if (what == 0) return kinds.size();
            if (packs == null) return NO;
            int sizes = 0;
            for (Pack p : packs) sizes += sizeOf(p);
            return what == 1 ? wholeOrder().size() : what == 2 ? packs.size() : sizes;
        }
    }

    private static final String[] NAMES = {"entry", "octets", "change", "pack", "common", "share", "distance",
        "order", "twin", "group", "place", "access", "open", "of", "token", "sum", "count"};

    private static int ask(SolidGroups x, int call, int a, int b, int c, long number) {
        switch (call) {
            case 0: return x.entry(a);
            case 1: return x.octets(a, b, number);
            case 2: return x.change(a, b, c);
            case 3: return x.pack(a, b);
            case 4: return x.common(a, b);
            case 5: return sharing(x, a, b);
            case 6: return x.distance(a, b);
            case 7: return x.order(a);
            case 8: return x.twin(a);
            case 9: return x.group(a);
            case 10: return x.place(a);
            case 11: return x.access(a);
            case 12: return x.open(a, b);
            case 13: return x.of(a, b);
            case 14: return x.token(a, b, c);
            case 15: return x.sum(a);
            default: return x.count(a);
        }
    }

    private static int sharing(SolidGroups x, int a, int b) {
        try {
            return x.share(a, b);
        } catch (ArithmeticException e) {
            return THROWS;
        }
    }

    private static int ask(Model x, int call, int a, int b, int c, long number) {
        switch (call) {
            case 0: return x.entry(a);
            case 1: return x.octets(a, b, number);
            case 2: return x.change(a, b, c);
            case 3: return x.pack(a, b);
            case 4: return x.common(a, b);
            case 5: return x.share(a, b);
            case 6: return x.distance(a, b);
            case 7: return x.order(a);
            case 8: case 9: case 10: case 11: return x.ask(call - 8, a);
            case 12: return x.open(a, b);
            case 13: return x.of(a, b);
            case 14: return x.token(a, b, c);
            case 15: return x.sum(a);
            default: return x.count(a);
        }
    }

    private static final class Run {
        final SolidGroups real = new SolidGroups();
        final Model model = new Model();
        final Random random;
        final int seed, kinds, letters, most;
        final List<String> told = new ArrayList<>();
        int calls = 0;
        boolean wrong = false;

        Run(int seed) {
            this.seed = seed;
            random = new Random(seed);
            kinds = 1 + random.nextInt(6);
            letters = 1 + random.nextInt(random.nextBoolean() ? 3 : 30);
            most = 1 + random.nextInt(60);
        }

        void call(int call, int a, int b, int c, long number) {
            if (calls >= 512 || wrong) return;
            calls++;
            int want = ModelTest.ask(model, call, a, b, c, number);
            int got = ModelTest.ask(real, call, a, b, c, number);
            told.add(NAMES[call] + "(" + a + ", " + b + ", " + c + ", " + number + ") " + got);
            if (got != want) {
                wrong = true;
                System.out.println("seed " + seed + ": due is " + want + " at the last of");
                for (String row : told) System.out.println("  " + row);
            }
        }

        int letter() {
            return (random.nextInt(letters) * 37 + 200) % 256;
        }

        int odd(int usual) {
            int[] odd = {-1, 0, 1, 6, 30, 31, 60, 400, 401, 255, 256, Integer.MIN_VALUE, Integer.MAX_VALUE, usual};
            return random.nextInt(12) == 0 ? odd[random.nextInt(odd.length)] : usual;
        }

        int anyEntry() {
            return random.nextInt(Math.max(1, model.kinds.size()));
        }

        int anyByte(int e) {
            return model.has(e) ? random.nextInt(Math.max(1, model.bytes.get(e).size())) : 0;
        }

        void addEntry() {
            int e = model.kinds.size();
            int kind = random.nextInt(kinds);
            call(0, odd(kind), 0, 0, 0);
            if (!model.has(e)) return;
            List<Integer> text = new ArrayList<>();
            if (e > 0 && random.nextInt(3) > 0) text.addAll(model.bytes.get(random.nextInt(e)));
            else for (int i = random.nextInt(most + 1); i > 0; i--) text.add(letter());
            if (!text.isEmpty() && random.nextInt(3) == 0) text.set(random.nextInt(text.size()), letter());
            for (int i = 0; i < text.size(); ) {
                int n = Math.min(text.size() - i, 1 + random.nextInt(8));
                long number = n == 8 ? 0 : random.nextLong() << 8 * n;
                for (int k = 0; k < n; k++) number |= (long) text.get(i + k) << 8 * k;
                call(1, e, n, 0, number);
                i += n;
            }
        }

        void ask() {
            int e = anyEntry(), f = anyEntry(), groups = model.packs == null ? 1 : model.packs.size();
            int g = random.nextInt(groups + 1);
            switch (4 + random.nextInt(13)) {
                case 4: call(4, odd(e), odd(f), 0, 0); break;
                case 5: call(5, odd(e), odd(f), 0, 0); break;
                case 6: call(6, odd(e), odd(f), 0, 0); break;
                case 7: call(7, odd(e), 0, 0, 0); break;
                case 8: call(8, odd(e), 0, 0, 0); break;
                case 9: call(9, odd(e), 0, 0, 0); break;
                case 10: call(10, odd(e), 0, 0, 0); break;
                case 11: call(11, odd(e), 0, 0, 0); break;
                case 12: call(12, odd(e), odd(anyByte(e)), 0, 0); break;
                case 13: call(13, odd(g), odd(random.nextInt(6)), 0, 0); break;
                case 14: call(14, odd(g), odd(random.nextInt(20)), odd(random.nextInt(3)), 0); break;
                case 15: call(15, odd(random.nextInt(6)), 0, 0, 0); break;
                default: call(16, odd(random.nextInt(4)), 0, 0, 0); break;
            }
        }

        void askAll() {
            for (int e = 0; e <= model.kinds.size(); e++) {
                for (int call = 7; call <= 11; call++) call(call, e, 0, 0, 0);
                call(12, e, anyByte(e), 0, 0);
            }
            for (int g = 0; model.packs != null && g <= model.packs.size(); g++) {
                for (int what = 0; what < 6; what++) call(13, g, what, 0, 0);
                int tokens = g < model.packs.size() ? model.packs.get(g).tokens.size() : 0;
                for (int i = tokens; i >= 0 && i > tokens - 6; i--) {
                    for (int what = 0; what < 3; what++) call(14, g, i, what, 0);
                }
            }
            for (int kind = 0; kind < 6; kind++) call(15, kind, 0, 0, 0);
            for (int what = 0; what < 4; what++) call(16, what, 0, 0, 0);
        }

        boolean goes() {
            int start = random.nextInt(31);
            for (int k = 0; k < start && calls < 250; k++) addEntry();
            while (calls < 512 && !wrong) {
                int turn = random.nextInt(100);
                int e = anyEntry();
                if (turn < 2) addEntry();
                else if (turn < 3) call(1, odd(e), odd(1 + random.nextInt(8)), 0, random.nextLong());
                else if (turn < 30) call(2, odd(e), odd(anyByte(e)), odd(letter()), 0);
                else if (turn < 36) call(3, odd(1 + random.nextInt(random.nextBoolean() ? 400 : 70)), odd(random.nextInt(3)), 0, 0);
                else if (turn < 38 && calls > 300) askAll();
                else ask();
            }
            return !wrong;
        }
    }

    public static void main(String[] args) {
        int runs = args.length > 0 ? Integer.parseInt(args[0]) : 1500;
        int bad = 0;
        for (int seed = 1; seed <= runs && bad < 3; seed++) {
            if (!new Run(seed).goes()) bad++;
        }
        System.out.println(bad == 0 ? "all answers are as due" : "some answers are not as due");
        if (bad != 0) System.exit(1);
    }
}
