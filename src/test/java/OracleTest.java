import java.util.Random;

/** All promises: long runs of calls, each answer beside that of the oracle. */
public final class OracleTest {
    private static final int RUNS = 400;
    private static final int CALLS = 512;

    private final Random random;
    private final RunCuts x = new RunCuts();
    private final Oracle o = new Oracle();

    private OracleTest(long seed) {
        random = new Random(seed);
    }

    public static void main(String[] args) {
        for (int run = 0; run < RUNS; run++) new OracleTest(run).play(run);
        Due.end();
    }

    private void play(int run) {
        int letters = 0;
        String text = "";
        for (int i = 0; i < CALLS; i++) {
            boolean typing = letters < text.length();
            boolean begins = !typing && random.nextInt(i < 3 ? 2 : 25) == 0;
            if (begins) {
                text = someText() + "\n";
                letters = 0;
                same(run, i, "blank()", x.blank(), o.blank());
            } else if (typing && random.nextInt(15) != 0) {
                char next = text.charAt(letters);
                letters++;
                if (next == '\n') same(run, i, "run()", x.run(), o.run());
                else same(run, i, "letter(" + (int) next + ")", x.letter(next), o.letter(next));
            } else {
                anyCall(run, i);
            }
        }
        same(run, CALLS, "digest()", x.digest(), o.digest());
    }

    private void same(int run, int i, String made, long got, long want) {
        Due.due("run " + run + ", call " + i + ", " + made, got, want);
    }

    private String someText() {
        switch (random.nextInt(6)) {
            case 0: return scribble();
            case 1: return spoiled(sound());
            default: return sound();
        }
    }

    private String scribble() {
        String signs = "0123456789!!!???;;; x:/";
        StringBuilder text = new StringBuilder();
        int length = random.nextInt(37);
        for (int i = 0; i < length; i++) text.append(signs.charAt(random.nextInt(signs.length())));
        return text.toString();
    }

    private String spoiled(String text) {
        if (text.isEmpty()) return text;
        int at = random.nextInt(text.length());
        String signs = "0123!?; ";
        char sign = signs.charAt(random.nextInt(signs.length()));
        int end = at + random.nextInt(2);
        return text.substring(0, at) + sign + text.substring(end);
    }

    /** The text of a computation: its events are put in one after the other, in an order that can come. */
    private String sound() {
        int n = 2 + random.nextInt(3);
        StringBuilder[] parts = new StringBuilder[n];
        int[] sizes = new int[n];
        int[][] free = new int[n][n];
        for (int p = 0; p < n; p++) parts[p] = new StringBuilder();
        int total = random.nextInt(17);
        int locals = random.nextInt(10);
        for (int i = 0; i < total; i++) {
            int p = random.nextInt(n);
            int q = (p + 1 + random.nextInt(n - 1)) % n;
            if (sizes[p] == 9) continue;
            sizes[p]++;
            if (random.nextInt(10) < locals) {
                parts[p].append(random.nextInt(random.nextBoolean() ? 10 : 3));
            } else if (free[q][p] > 0 && random.nextInt(4) != 0) {
                free[q][p]--;
                parts[p].append('?').append(q);
            } else {
                free[p][q]++;
                parts[p].append('!').append(q);
            }
        }
        return String.join(";", parts);
    }

    private int small() {
        return random.nextInt(30) == 0 ? strange() : random.nextInt(4);
    }

    private int upTo(int most) {
        return random.nextInt(25) == 0 ? strange() : random.nextInt(most + 1);
    }

    private int strange() {
        int[] numbers = {-1, -2, 4, 5, 6, 7, 9, 10, 17, 36, 37, 1023, 1024, 10000, Integer.MAX_VALUE,
            Integer.MIN_VALUE, 1 << 30, random.nextInt()};
        return numbers[random.nextInt(numbers.length)];
    }

    private int someCut() {
        int kind = random.nextInt(12);
        if (kind == 0) return strange();
        if (kind == 1) return random.nextInt(10000);
        int n = o.count(0);
        if (kind < 6) {
            int number = 0;
            for (int p = 0; p < n; p++) number = number * 10 + random.nextInt(16 / n + 2);
            return number;
        }
        int level = random.nextInt(o.count(1) + 1);
        int place = random.nextInt(8);
        for (int back = place; back >= 0; back--) {
            if (o.level(level, back) >= 0) return o.level(level, back);
        }
        return 0;
    }

    private int someMask() {
        if (random.nextInt(20) == 0) return strange();
        int mask = random.nextInt(1024);
        return random.nextBoolean() ? mask : mask | random.nextInt(1024);
    }

    private int someSeed() {
        int kind = random.nextInt(10);
        if (kind == 0) return strange();
        if (kind == 1) return 0;
        return kind < 6 ? random.nextInt(100) : random.nextInt(Integer.MAX_VALUE);
    }

    private void anyCall(int run, int i) {
        int kind = random.nextInt(60);
        if (kind < 12) {
            changeCall(run, i, kind);
        } else if (kind < 30) {
            cutCall(run, i, kind - 12);
        } else if (kind < 46) {
            wishCall(run, i, kind - 30);
        } else if (kind < 58) {
            playCall(run, i, kind - 46);
        } else if (kind < 59) {
            same(run, i, "digest()", x.digest(), o.digest());
        } else {
            int a = random.nextInt(20) == 0 ? strange() : 32 + random.nextInt(95);
            same(run, i, "letter(" + a + ")", x.letter(a), o.letter(a));
        }
    }

    private void changeCall(int run, int i, int kind) {
        int p = small();
        int q = small();
        int v = upTo(9);
        String two = "(" + p + ", " + q + ")";
        switch (kind) {
            case 0: case 1: case 2:
                same(run, i, "local(" + p + ", " + v + ")", x.local(p, v), o.local(p, v));
                break;
            case 3: case 4: case 5:
                same(run, i, "send" + two, x.send(p, q), o.send(p, q));
                break;
            case 6: case 7: case 8:
                same(run, i, "receive" + two, x.receive(p, q), o.receive(p, q));
                break;
            case 9: case 10:
                same(run, i, "back(" + p + ")", x.back(p), o.back(p));
                break;
            default:
                same(run, i, "fault()", x.fault(), o.fault());
        }
    }

    private void cutCall(int run, int i, int kind) {
        int p = small();
        int q = small();
        int e = upTo(9);
        int f = upTo(9);
        int what = upTo(6);
        int c = someCut();
        int d = someCut();
        switch (kind) {
            case 0: case 1: case 2:
                same(run, i, "event(" + p + ", " + e + ", " + what + ")", x.event(p, e, what), o.event(p, e, what));
                break;
            case 3: case 4:
                same(run, i, "order(" + p + ", " + e + ", " + q + ", " + f + ")", x.order(p, e, q, f),
                    o.order(p, e, q, f));
                break;
            case 5: case 6: case 7: case 8:
                same(run, i, "cut(" + c + ", " + what + ")", x.cut(c, what), o.cut(c, what));
                break;
            case 9: case 10:
                same(run, i, "value(" + c + ", " + p + ")", x.value(c, p), o.value(c, p));
                break;
            case 11: case 12:
                same(run, i, "under(" + c + ", " + p + ", " + q + ")", x.under(c, p, q), o.under(c, p, q));
                break;
            case 13:
                same(run, i, "meet(" + c + ", " + d + ")", x.meet(c, d), o.meet(c, d));
                break;
            case 14:
                same(run, i, "join(" + c + ", " + d + ")", x.join(c, d), o.join(c, d));
                break;
            case 15: case 16:
                same(run, i, "lattice(" + what + ")", x.lattice(what), o.lattice(what));
                break;
            default:
                int level = upTo(17);
                int place = upTo(20);
                same(run, i, "level(" + level + ", " + place + ")", x.level(level, place), o.level(level, place));
        }
    }

    private void wishCall(int run, int i, int kind) {
        int p = small();
        int e = upTo(4);
        int what = small();
        int mask = someMask();
        switch (kind) {
            case 0: case 1:
                int wish = random.nextInt(3) == 0 ? small() : 0;
                int v = random.nextBoolean() ? upTo(36) : upTo(9);
                same(run, i, "wish(" + wish + ", " + v + ")", x.wish(wish, v), o.wish(wish, v));
                break;
            case 2: case 3: case 4:
                same(run, i, "allow(" + p + ", " + mask + ")", x.allow(p, mask), o.allow(p, mask));
                break;
            case 5: case 6: case 7:
                same(run, i, "wished(" + what + ")", x.wished(what), o.wished(what));
                break;
            case 8: case 9:
                int step = upTo(16);
                same(run, i, "around(" + step + ")", x.around(step), o.around(step));
                break;
            case 10:
                same(run, i, "least()", x.least(), o.least());
                break;
            case 11:
                same(run, i, "strong()", x.strong(), o.strong());
                break;
            case 12: case 13:
                int end = upTo(2);
                same(run, i, "interval(" + p + ", " + e + ", " + end + ")", x.interval(p, e, end),
                    o.interval(p, e, end));
                break;
            default:
                same(run, i, "lean(" + what + ")", x.lean(what), o.lean(what));
        }
    }

    private void playCall(int run, int i, int kind) {
        int p = small();
        int step = upTo(16);
        int seed = someSeed();
        int what = small();
        switch (kind) {
            case 0: case 1:
                same(run, i, "play(" + seed + ")", x.play(seed), o.play(seed));
                break;
            case 2: case 3: case 4:
                same(run, i, "played(" + step + ")", x.played(step), o.played(step));
                break;
            case 5: case 6: case 7: case 8:
                int t = random.nextBoolean() && o.count(1) > 0 ? random.nextInt(o.count(1) + 1) : upTo(16);
                same(run, i, "shot(" + p + ", " + t + ")", x.shot(p, t), o.shot(p, t));
                break;
            case 9: case 10:
                same(run, i, "shots(" + what + ")", x.shots(what), o.shots(what));
                break;
            default:
                int number = upTo(8);
                same(run, i, "count(" + number + ")", x.count(number), o.count(number));
        }
    }
}
