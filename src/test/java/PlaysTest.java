/** Promises 27 to 30: plays and snapshots. */
public final class PlaysTest {
    public static void main(String[] args) {
        playsInOrder();
        playsBySeed();
        playErrors();
        snapshots();
        forcedMarkers();
        snapshotErrors();
        Due.end();
    }

    private static void play(RunCuts x, int seed, int... wants) {
        Due.due("play(" + seed + ")", x.play(seed), wants.length);
        for (int step = 0; step < wants.length; step++) {
            Due.due("played(" + step + ") of seed " + seed, x.played(step), wants[step]);
        }
        Due.due("played() behind the end", x.played(wants.length), RunCuts.UNKNOWN);
    }

    private static void playsInOrder() {
        play(Due.read(";"), 0);
        play(Due.read("1!15;?06"), 0, 0, 0, 0, 1, 1);
        play(Due.read("?1;2!0;3"), 0, 1, 1, 0, 2);
        play(Due.read("1;?2;!1"), 0, 0, 2, 1);
    }

    /** From seed 1, s / 65536 is 16838, 5758, 10113, 17515, 31051, 5627, 23010, 7419. */
    private static void playsBySeed() {
        play(Due.read("1;2;3"), 1, 2, 0, 1);
        play(Due.read("1!15;?06"), 1, 0, 0, 1, 1, 0);
        play(Due.read("12;34"), 1, 0, 0, 1, 1);
        play(Due.read("1234;5678"), 1, 0, 0, 1, 1, 1, 1, 0, 0);
        play(Due.read("11;22;33;44"), 1, 2, 2, 0, 1, 1, 3, 0, 3);
        RunCuts x = Due.read("12;34");
        play(x, 1, 0, 0, 1, 1);
        play(x, 0, 0, 0, 1, 1);
        Due.due("play(MAX)", x.play(Integer.MAX_VALUE), 4);
        play(Due.read(";"), 5);
    }

    private static void playErrors() {
        RunCuts x = Due.read("1;2");
        Due.due("played(0), no play", x.played(0), RunCuts.UNKNOWN);
        Due.due("play(-1)", x.play(-1), RunCuts.OUTSIDE);
        Due.due("played(0), no play", x.played(0), RunCuts.UNKNOWN);
        x.play(0);
        x.shot(1, 1);
        Due.due("play(MIN)", x.play(Integer.MIN_VALUE), RunCuts.OUTSIDE);
        Due.due("shots(0) after a refusal", x.shots(0), 10);
        Due.due("played(1) after a refusal", x.played(1), 1);
        Due.due("played(-1)", x.played(-1), RunCuts.UNKNOWN);
        Due.due("played(2)", x.played(2), RunCuts.UNKNOWN);
        Due.due("played(MAX)", x.played(Integer.MAX_VALUE), RunCuts.UNKNOWN);
        x.play(2);
        Due.due("shots(0) after a play", x.shots(0), RunCuts.STATE);
        Due.due("count(7) after a play", x.count(7), 1);
    }

    private static void shot(RunCuts x, int p, int t, int cut, int forced, int last) {
        String call = "(" + p + ", " + t + ")";
        Due.due("shot" + call, x.shot(p, t), cut);
        Due.due("shots(0) of " + call, x.shots(0), cut);
        Due.due("shots(1) of " + call, x.shots(1), forced);
        Due.due("shots(2) of " + call, x.shots(2), last);
    }

    private static void snapshots() {
        RunCuts x = Due.read("!1;?01");
        x.play(0);
        shot(x, 0, 0, 0, 0, 0);
        shot(x, 0, 1, 11, 0, 2);
        shot(x, 1, 1, 10, 0, 1);
        shot(x, 1, 2, 11, 0, 2);
        shot(x, 0, 3, 12, 0, 3);
        Due.due("count(7)", x.count(7), 5);
        RunCuts y = Due.read("!14?2;5?06;7!0");
        y.play(0);
        shot(y, 0, 1, 100, 0, 1);
        shot(y, 1, 2, 200, 0, 2);
        shot(y, 2, 7, 232, 0, 7);
        RunCuts v = Due.read("!1!2;?0;?0");
        v.play(0);
        shot(v, 0, 2, 210, 0, 3);
        shot(v, 2, 2, 200, 0, 2);
        shot(v, 0, 3, 210, 0, 3);
        RunCuts w = Due.read("!3;!3;!3;?0?1?2");
        w.play(0);
        shot(w, 3, 3, 1110, 0, 3);
        shot(w, 0, 3, 1111, 0, 4);
        shot(w, 1, 6, 1113, 0, 6);
        RunCuts z = Due.read(";;;");
        z.play(9);
        shot(z, 3, 0, 0, 0, 0);
    }

    private static void forcedMarkers() {
        RunCuts x = Due.read("!1;");
        x.play(0);
        shot(x, 0, 1, 10, 1, 1);
        shot(x, 1, 1, 10, 1, 1);
        shot(x, 0, 0, 0, 0, 0);
        shot(x, 1, 0, 0, 0, 0);
        RunCuts y = Due.read("!1!2;;");
        y.play(0);
        shot(y, 0, 2, 200, 2, 2);
        shot(y, 0, 1, 100, 1, 1);
        RunCuts z = Due.read("!1!1;?0");
        z.play(0);
        shot(z, 0, 2, 21, 1, 3);
        shot(z, 0, 1, 11, 0, 3);
        RunCuts w = Due.read("!15;7!0");
        w.play(0);
        shot(w, 0, 1, 12, 2, 4);
        shot(w, 1, 2, 20, 1, 2);
    }

    private static void snapshotErrors() {
        RunCuts x = Due.read("1;2");
        Due.due("shot(0, 0), no play", x.shot(0, 0), RunCuts.STATE);
        Due.due("shot(9, 9), no play", x.shot(9, 9), RunCuts.STATE);
        Due.due("shots(0), no snapshot", x.shots(0), RunCuts.STATE);
        Due.due("shots(3), no snapshot", x.shots(3), RunCuts.OUTSIDE);
        Due.due("shots(-1), no snapshot", x.shots(-1), RunCuts.OUTSIDE);
        x.play(0);
        Due.due("shots(0), no snapshot", x.shots(0), RunCuts.STATE);
        Due.due("shot(0, 2)", x.shot(0, 2), 11);
        Due.due("shot(2, 0)", x.shot(2, 0), RunCuts.UNKNOWN);
        Due.due("shot(-1, 3)", x.shot(-1, 3), RunCuts.UNKNOWN);
        Due.due("shot(0, 3)", x.shot(0, 3), RunCuts.OUTSIDE);
        Due.due("shot(0, -1)", x.shot(0, -1), RunCuts.OUTSIDE);
        Due.due("shot(0, MAX)", x.shot(0, Integer.MAX_VALUE), RunCuts.OUTSIDE);
        Due.due("shots(0) after refusals", x.shots(0), 11);
        Due.due("shots(3)", x.shots(3), RunCuts.OUTSIDE);
        Due.due("count(7) after refusals", x.count(7), 1);
        x.wish(1, 1);
        x.allow(0, 1);
        Due.due("shots(2) after wishes", x.shots(2), 2);
    }
}
