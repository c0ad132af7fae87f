/** The document's chapter "Plays and snapshots". */
final class SnapshotSentences {
    private static final int UNKNOWN = RunCuts.UNKNOWN;

    private SnapshotSentences() {
    }

    static void test() {
        Sentences.chapter("Plays and snapshots");
        plays();
        snapshots();
    }

    private static void plays() {
        Sentences.holds("To play the computation, all events are put into an order, one after the other: of the"
            + " processes that have a next event which can come (a receive can come if its partner has come), one"
            + " is chosen each time, and its next event comes.", SnapshotSentences::eventsThatCanCome);
        Sentences.holds("If the seed is 0, it is the process with the lowest number.",
            SnapshotSentences::lowestNumber);
        Sentences.holds("Otherwise there is a number s, which is the seed at first;",
            SnapshotSentences::seedAtFirst);
        Sentences.holds("each time, even if there is only one such process,", SnapshotSentences::alsoForOne);
        Sentences.holds("s becomes (1103515245 * s + 12345) modulo 2^31 (without overflow),",
            SnapshotSentences::greatSeeds);
        Sentences.holds("and the process with the index (s / 65536) modulo (number of such processes) is chosen,"
            + " where they are indexed from 0 in ascending order.", SnapshotSentences::indexes);
    }

    private static void snapshots() {
        Sentences.holds("A snapshot is begun by a process after the first t events of the play.",
            SnapshotSentences::beginnings);
        Sentences.holds("To note means: a process that has noted nothing yet notes how many of its events have come,"
            + " and sends a marker to each other process;", SnapshotSentences::notesOnce);
        Sentences.holds("the marker is behind all messages that it has sent there until then.",
            SnapshotSentences::behindMessages);
        Sentences.holds("The play goes on as it was.", SnapshotSentences::playGoesOn);
        Sentences.holds("A marker arrives as soon as all messages that are before it, from the same process to the"
            + " same one, have been received; then the process to which it was sent notes.",
            SnapshotSentences::arrivals);
        Sentences.holds("If several markers can arrive, the one from the process with the lowest number arrives"
            + " first, of these the one to the process with the lowest number;", SnapshotSentences::severalMarkers);
        Sentences.holds("all markers that can arrive do so before the next event.",
            SnapshotSentences::beforeTheNextEvent);
        Sentences.holds("After the last event, when no marker can arrive any more but some are left, the first one"
            + " of them in the same order arrives nevertheless (it is forced);", SnapshotSentences::forced);
        Sentences.holds("this is repeated, including markers that can arrive then, until none is left.",
            SnapshotSentences::forcedAgain);
        Sentences.holds("The result is the cut that has been noted.", SnapshotSentences::results);
    }

    private static void play(String text, int seed, int... wants) {
        RunCuts x = Due.read(text);
        String of = " of " + text + " by seed " + seed;
        Due.due("play()" + of, x.play(seed), wants.length);
        for (int step = 0; step < wants.length; step++) {
            Due.due("played(" + step + ")" + of, x.played(step), wants[step]);
        }
        Due.due("played() behind the end" + of, x.played(wants.length), UNKNOWN);
    }

    private static void eventsThatCanCome() {
        play(";;;", 0);
        play(";;;", 1);
        play("?1;!0", 0, 1, 0);
        play("?1;!0", 1, 1, 0);
        play("?1?1;!05!0", 0, 1, 0, 1, 1, 0);
        play("?2!1;?0;!0;9", 0, 2, 0, 0, 1, 3);
    }

    private static void lowestNumber() {
        play("1234;5678", 0, 0, 0, 0, 0, 1, 1, 1, 1);
        play("11;22;33;44", 0, 0, 0, 1, 1, 2, 2, 3, 3);
        play("1?31;2;3;!04", 0, 0, 1, 2, 3, 0, 0, 3);
    }

    /** The first s is 1103527590 from seed 1, and 1222621274 from seed 5: 16838 and 18655 by 65536. */
    private static void seedAtFirst() {
        RunCuts x = Due.read("1;2;3");
        x.play(5);
        Due.due("the first step of seed 5", x.played(0), 18655 % 3);
        x.play(1);
        Due.due("the first step of seed 1 behind another play", x.played(0), 16838 % 3);
        x.play(5);
        Due.due("the first step of seed 5 again", x.played(0), 18655 % 3);
    }

    /** By the second and the third step s is 5758 and 10113: only the third one chooses of two. */
    private static void alsoForOne() {
        play("5!16;?0", 1, 0, 0, 1, 0);
        play("123456789;", 1, 0, 0, 0, 0, 0, 0, 0, 0, 0);
    }

    /** From seed 2147483647 the first s is 2^31 - 1103502900 = 1043980748: 15929 by 65536. */
    private static void greatSeeds() {
        play("1;2", Integer.MAX_VALUE, 1, 0);
        RunCuts x = Due.read("1;2;3;4");
        x.play(Integer.MAX_VALUE);
        Due.due("the first step of the greatest seed", x.played(0), 15929 % 4);
        x.play(65536);
        Due.due("the first step of seed 65536", x.played(0), (1103515245 % 32768) % 4);
    }

    /**
     * From seed 1, s / 65536 is 16838, 5758, 10113, 17515, 31051, 5627, 23010, 7419, 16212, 4086, 2749,
     * 12767, 9084, 12060, 32225, 17543.
     */
    private static void indexes() {
        play("1111;2222;3333;4444", 1, 2, 2, 1, 3, 3, 3, 2, 3, 0, 0, 1, 2, 0, 0, 1, 1);
        play("?1;2!0;3", 1, 1, 1, 2, 0);
        play(";?3;;4!1", 1, 3, 3, 1);
    }

    private static void shot(RunCuts x, int p, int t, int cut, int forced, int last) {
        String of = " of shot(" + p + ", " + t + ")";
        Due.due("the answer" + of, x.shot(p, t), cut);
        Due.due("shots(0)" + of, x.shots(0), cut);
        Due.due("shots(1)" + of, x.shots(1), forced);
        Due.due("shots(2)" + of, x.shots(2), last);
    }

    private static RunCuts played(String text) {
        RunCuts x = Due.read(text);
        x.play(0);
        return x;
    }

    private static void beginnings() {
        RunCuts x = played("12;34");
        shot(x, 0, 0, 0, 0, 0);
        shot(x, 1, 0, 0, 0, 0);
        shot(x, 0, 1, 10, 0, 1);
        shot(x, 1, 1, 10, 0, 1);
        shot(x, 1, 3, 21, 0, 3);
        shot(x, 0, 4, 22, 0, 4);
        shot(played(";"), 1, 0, 0, 0, 0);
    }

    /** Process 0 notes after one event; the marker that comes back later, after three events, changes nothing. */
    private static void notesOnce() {
        RunCuts x = played("!15;?07");
        shot(x, 0, 1, 11, 0, 3);
        RunCuts y = played("1;2;3;4");
        shot(y, 3, 2, 1100, 0, 2);
        RunCuts z = played("!1;?0!2;?1;4");
        shot(z, 0, 0, 0, 0, 0);
        shot(z, 0, 1, 1000, 0, 1);
    }

    private static void behindMessages() {
        RunCuts x = played("!1!1;?0?0");
        shot(x, 0, 0, 0, 0, 0);
        shot(x, 0, 1, 11, 0, 3);
        shot(x, 0, 2, 22, 0, 4);
        shot(x, 1, 1, 10, 0, 1);
        shot(x, 1, 2, 20, 0, 2);
    }

    private static void playGoesOn() {
        RunCuts x = Due.read("!15;?07;8!0");
        x.play(9);
        int[] steps = new int[6];
        for (int step = 0; step < 6; step++) steps[step] = x.played(step);
        for (int t = 0; t <= 6; t++) x.shot(t % 3, t);
        for (int step = 0; step < 6; step++) Due.due("played(" + step + ")", x.played(step), steps[step]);
        shot(played("!123;?0"), 0, 1, 11, 0, 4);
    }

    /** A message to another process does not hold a marker back, nor does one from another process. */
    private static void arrivals() {
        RunCuts x = played("!2;5;?0");
        shot(x, 0, 1, 100, 0, 1);
        RunCuts y = played("!1!2;?0;?0");
        shot(y, 0, 1, 100, 0, 1);
        shot(y, 0, 2, 210, 0, 3);
        RunCuts z = played("!1;!0?0;9");
        shot(z, 0, 1, 100, 0, 1);
        RunCuts w = played("!1;?0!0;");
        shot(w, 1, 2, 110, 0, 2);
    }

    private static void severalMarkers() {
        shot(played(";;;"), 0, 0, 0, 0, 0);
        shot(played("1;2;3;4"), 2, 4, 1111, 0, 4);
        RunCuts x = played("1!3;2!3;3!3;?0?1?2");
        shot(x, 0, 6, 2221, 0, 7);
        shot(x, 3, 6, 2220, 0, 6);
    }

    private static void beforeTheNextEvent() {
        RunCuts x = played("!1;?05;67");
        shot(x, 0, 1, 100, 0, 1);
        shot(x, 2, 2, 110, 0, 2);
        RunCuts y = played("!15;?07");
        shot(y, 1, 1, 10, 0, 1);
    }

    private static void forced() {
        RunCuts x = played("!1;23");
        shot(x, 0, 0, 0, 0, 0);
        shot(x, 0, 1, 12, 1, 3);
        shot(x, 1, 1, 10, 1, 1);
        shot(x, 1, 3, 12, 1, 3);
        RunCuts y = played("!1!1;?0");
        shot(y, 0, 1, 11, 0, 3);
        shot(y, 0, 2, 21, 1, 3);
    }

    private static void forcedAgain() {
        RunCuts x = played("!1!2;;");
        shot(x, 0, 1, 100, 1, 1);
        shot(x, 0, 2, 200, 2, 2);
        RunCuts y = played("!1!2!3;!0!2!3;!0!1!3;!0!1!2");
        shot(y, 0, 12, 3333, 12, 12);
        shot(y, 0, 0, 0, 0, 0);
        RunCuts z = played("!1!2;;!1");
        shot(z, 0, 2, 201, 3, 3);
    }

    private static void results() {
        RunCuts x = Due.read("!1?2!24;?0!25;?1!0?0;6");
        for (int seed = 0; seed < 8; seed++) {
            int total = x.play(seed);
            for (int t = 0; t <= total; t++) {
                int cut = x.shot((seed + t) % 4, t);
                Due.due("cut(" + cut + ", 0) of seed " + seed, x.cut(cut, 0), 1);
                Due.due("shots(0) of seed " + seed, x.shots(0), cut);
            }
        }
    }
}
