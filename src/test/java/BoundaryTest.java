import java.util.ArrayList;
import java.util.List;

/**
 * For each sentence of the document that names a boundary case a test of its own:
 * the last value that is allowed, the first that is not, the least and the greatest
 * int, and that a refused call leaves every later answer as it would have been.
 */
public final class BoundaryTest {
    private static final int MIN = Integer.MIN_VALUE;
    private static final int MAX = Integer.MAX_VALUE;
    private static final int BAD_QUERY = -1;
    private static final int BAD_TERM = -2;
    private static final int FULL = -3;
    private static final int BAD_LEAST = -4;
    private static final int NONE = -5;

    private static final int[] NO_TERMS = {-1, 24, -24, 25, MIN, MIN + 1, MAX - 1, MAX};
    private static final int[] NO_QUERY_NUMBERS = {-1, 12, -12, 13, MIN, MIN + 1, MAX - 1, MAX};
    private static final int[] NO_LEASTS = {-1, 7, -7, 8, MIN, MIN + 1, MAX - 1, MAX};
    private static final int[] ODD_INTS = {MIN, MIN + 1, -1, 0, 1, MAX - 1, MAX};

    // ---- how a test is told and counted ----

    private static String sentence = "";
    private static int tests = 0;
    private static int wrong = 0;
    private static int wrongOfSentence = 0;
    private static String lastCall = "";

    private static void says(String quoted) {
        sentence = quoted;
        tests++;
        wrongOfSentence = 0;
    }

    private static void fail(String what) {
        wrong++;
        wrongOfSentence++;
        // One broken line of the class can make thousands of answers wrong.
        if (wrongOfSentence <= 10) {
            System.out.println(sentence + "\n    " + what);
        }
    }

    private static void due(int got, int want) {
        if (got != want) {
            fail(lastCall + " answered " + got + ", due is " + want);
        }
    }

    private static void due(boolean got, boolean want) {
        if (got != want) {
            fail(lastCall + " answered " + got + ", due is " + want);
        }
    }

    /** A new object, with every call made on it and what the call answered. */
    private static final class Run {
        private final Percolator p = new Percolator();
        private final List<String> log = new ArrayList<>();
        private int calls = 0;

        private void made(String call, int answer) {
            calls++;
            log.add(call + " = " + answer);
            lastCall = "call " + calls + ", " + call + ",";
            if (calls > 512) {
                fail("the test itself makes more than 512 calls");
            }
        }

        private int told(String call, int answer) {
            made(call, answer);
            return answer;
        }

        int create(int least) {
            return told("create(" + least + ")", p.create(least));
        }

        int must(int q, int t) {
            return told("must(" + q + ", " + t + ")", p.must(q, t));
        }

        int not(int q, int t) {
            return told("not(" + q + ", " + t + ")", p.not(q, t));
        }

        int should(int q, int t) {
            return told("should(" + q + ", " + t + ")", p.should(q, t));
        }

        int phrase(int q, int t, int u) {
            return told("phrase(" + q + ", " + t + ", " + u + ")", p.phrase(q, t, u));
        }

        int range(int q, int lo, int hi) {
            return told("range(" + q + ", " + lo + ", " + hi + ")", p.range(q, lo, hi));
        }

        int remove(int q) {
            return told("remove(" + q + ")", p.remove(q));
        }

        int word(int t) {
            return told("word(" + t + ")", p.word(t));
        }

        void document(int number) {
            p.document(number);
            made("document(" + number + ")", 0);
        }

        int matches() {
            return told("matches()", p.matches());
        }

        int match(int i) {
            return told("match(" + i + ")", p.match(i));
        }

        int score(int i) {
            return told("score(" + i + ")", p.score(i));
        }

        boolean matchesQuery(int q) {
            return told("matchesQuery(" + q + ")", p.matchesQuery(q) ? 1 : 0) == 1;
        }

        Run creates(int count) {
            for (int k = 0; k < count; k++) {
                create(0);
            }
            return this;
        }

        Run words(int... terms) {
            for (int t : terms) {
                word(t);
            }
            return this;
        }

        /** The whole ranking, each match as its query and its score, up to one past the last. */
        void dueRanking(int... queriesAndScores) {
            int count = queriesAndScores.length / 2;
            due(matches(), count);
            for (int i = 0; i < count; i++) {
                due(match(i), queriesAndScores[2 * i]);
                due(score(i), queriesAndScores[2 * i + 1]);
            }
            due(match(count), NONE);
            due(score(count), 0);
        }
    }

    private interface Calls {
        void on(Run r);
    }

    private interface Call {
        int on(Run r);
    }

    // ---- that a call changed nothing ----

    private static final Calls[] LATER_CALLS = {
        BoundaryTest::readEverything,
        BoundaryTest::goOnWithWords,
        BoundaryTest::goOnWithDocuments,
        BoundaryTest::goOnWithClauses,
        BoundaryTest::goOnWithQueries,
        BoundaryTest::lookAtDocument,
    };

    private static void readEverything(Run r) {
        readRanking(r);
        for (int k : new int[] {-1, 12, MIN, MAX}) {
            r.match(k);
            r.score(k);
            r.matchesQuery(k);
        }
        for (int q = 0; q < 12; q++) {
            r.matchesQuery(q);
        }
    }

    private static void readRanking(Run r) {
        r.matches();
        for (int i = 0; i < 12; i++) {
            r.match(i);
            r.score(i);
        }
    }

    private static void goOnWithWords(Run r) {
        r.word(2);
        readRanking(r);
        for (int k = 0; k < 17; k++) {
            r.word(k % 4);
        }
        readRanking(r);
    }

    private static void goOnWithDocuments(Run r) {
        int[] numbers = {0, 7, MIN, MAX};
        int[][] documents = {{}, {1, 2, 3}, {3, 2, 2, 1}, {0, 23, 4, 5}};
        for (int k = 0; k < numbers.length; k++) {
            r.document(numbers[k]);
            r.words(documents[k]);
            readRanking(r);
        }
    }

    private static void goOnWithClauses(Run r) {
        for (int q = -1; q <= 12; q++) {
            for (int k = 0; k < 7; k++) {
                r.should(q, 2);
            }
        }
        readRanking(r);
        r.word(2);
        readRanking(r);
    }

    private static void goOnWithQueries(Run r) {
        for (int k = 0; k < 13; k++) {
            r.create(k % 2);
        }
        readRanking(r);
        for (int q = -1; q <= 12; q++) {
            r.remove(q);
        }
        r.create(0);
        readRanking(r);
    }

    /** What the document is, asked by queries that come and go: numbers, words, neighbours. */
    private static void lookAtDocument(Run r) {
        for (int q = 0; q < 12; q++) {
            r.remove(q);
        }
        for (int[] lohi : new int[][] {{MIN, MIN}, {MIN + 1, -1}, {0, 0}, {1, 6}, {7, 7}, {8, MAX - 1}, {MAX, MAX}}) {
            r.create(0);
            r.range(0, lohi[0], lohi[1]);
            r.matches();
            r.remove(0);
        }
        for (int t = 0; t < 24; t++) {
            r.create(0);
            r.must(0, t);
            r.score(0);
            r.remove(0);
        }
        for (int t = 0; t < 4; t++) {
            for (int u = 0; u < 4; u++) {
                r.create(0);
                r.phrase(0, t, u);
                r.matches();
                r.remove(0);
            }
        }
    }

    /** The call gives this answer, and all later calls answer as they do without it. */
    private static void changesNothing(Calls before, Call call, int answer) {
        for (Calls later : LATER_CALLS) {
            Run with = new Run();
            before.on(with);
            int place = with.log.size();
            due(call.on(with), answer);
            String taken = with.log.remove(place);
            later.on(with);
            Run without = new Run();
            before.on(without);
            later.on(without);
            dueSameLog(taken, with.log, without.log);
        }
    }

    private static void dueSameLog(String after, List<String> got, List<String> want) {
        for (int k = 0; k < want.size(); k++) {
            if (!got.get(k).equals(want.get(k))) {
                fail("after " + after + ": " + got.get(k) + ", without that call: " + want.get(k));
                return;
            }
        }
    }

    // ---- states in which a refusal is tried ----

    private static void newObject(Run r) {
    }

    /** Queries 0, 2, 3 and 4, each kind of clause among them, with room left everywhere. */
    private static void someQueries(Run r) {
        r.creates(5);
        r.must(0, 1);
        r.should(0, 2);
        r.phrase(2, 2, 2);
        r.not(2, 0);
        r.range(3, 0, 7);
        r.should(4, 3);
        r.must(4, 3);
        r.remove(1);
        r.document(7);
        r.words(1, 2, 2, 3);
    }

    /** Twelve queries; the even ones have six clauses, the odd ones one. */
    private static void twelveQueries(Run r) {
        r.creates(12);
        for (int q = 0; q < 12; q++) {
            for (int k = 0; k < (q % 2 == 0 ? 6 : 1); k++) {
                r.should(q, (q + k) % 4);
            }
        }
        r.document(7);
        r.words(1, 2, 3);
    }

    private static void sixteenWords(Run r) {
        someQueries(r);
        for (int k = 4; k < 16; k++) {
            r.word(k % 3);
        }
    }

    /** Query 3 had six clauses and is gone; 2 and 4 have six, all others none. */
    private static void fullOneRemoved(Run r) {
        r.creates(12);
        for (int q = 2; q <= 4; q++) {
            for (int k = 0; k < 6; k++) {
                r.should(q, k);
            }
        }
        r.remove(3);
        r.document(7);
        r.words(1, 2, 3);
    }

    private static final Calls[] STATES = {
        BoundaryTest::newObject,
        BoundaryTest::someQueries,
        BoundaryTest::twelveQueries,
        BoundaryTest::sixteenWords,
        BoundaryTest::fullOneRemoved,
    };

    // ---- the five calls that add a clause ----

    private interface Adder {
        int add(Run r, int query, int t);
    }

    private static final String[] TERM_ADDER_NAMES = {"must", "not", "should", "phrase, t", "phrase, u", "phrase, t and u"};
    private static final Adder[] TERM_ADDERS = {
        (r, q, t) -> r.must(q, t),
        (r, q, t) -> r.not(q, t),
        (r, q, t) -> r.should(q, t),
        (r, q, t) -> r.phrase(q, t, 5),
        (r, q, t) -> r.phrase(q, 5, t),
        (r, q, t) -> r.phrase(q, t, t),
    };

    private static final String[] ADDER_NAMES = {"promise 3, must", "promise 4, not", "promise 5, should",
        "promise 6, phrase", "promise 7, range"};
    private static final Adder[] ADDERS = {
        (r, q, t) -> r.must(q, t),
        (r, q, t) -> r.not(q, t),
        (r, q, t) -> r.should(q, t),
        (r, q, t) -> r.phrase(q, t, t),
        (r, q, t) -> r.range(q, t, t),
    };

    // ---- What it is ----

    private static void lastOf512Calls() {
        says("What it is: \"An object is used for at most 512 calls after it has been made\"");
        for (int kind = 0; kind < 16; kind++) {
            Run r = new Run();
            for (int k = 0; k < 63; k++) {
                cycleOfEight(r);
            }
            due(r.create(0), 0);
            due(r.should(0, 6), 1);
            due(r.word(6), 1);
            due(r.word(6), 2);
            due(r.create(1), 1);
            due(r.remove(1), 1);
            due(r.should(0, 7), 2);
            lastCallOf(r, kind);
            if (r.calls != 512) {
                fail("the test itself makes " + r.calls + " calls, not 512");
            }
        }
    }

    private static void cycleOfEight(Run r) {
        due(r.create(0), 0);
        due(r.must(0, 5), 1);
        due(r.word(5), 1);
        due(r.match(0), 0);
        due(r.score(0), 1);
        due(r.matchesQuery(0), true);
        due(r.remove(0), 0);
        r.document(0);
    }

    private static void lastCallOf(Run r, int kind) {
        switch (kind) {
            case 0: due(r.create(6), 1); break;
            case 1: due(r.create(7), BAD_LEAST); break;
            case 2: due(r.must(0, 23), 3); break;
            case 3: due(r.not(0, 0), 3); break;
            case 4: due(r.should(0, 24), BAD_TERM); break;
            case 5: due(r.phrase(1, 0, 0), BAD_QUERY); break;
            case 6: due(r.range(0, MIN, MAX), 3); break;
            case 7: due(r.remove(0), 0); break;
            case 8: due(r.remove(1), BAD_QUERY); break;
            case 9: due(r.word(23), 3); break;
            case 10: due(r.matches(), 1); break;
            case 11: due(r.match(0), 0); break;
            case 12: due(r.match(1), NONE); break;
            case 13: due(r.score(0), 2); break;
            case 14: due(r.matchesQuery(0), true); break;
            default: r.document(MAX); break;
        }
    }

    private static void nearly512CallsOfOneKind() {
        says("What it is: \"at most 512 calls\", nearly all of one kind, most of them refused");
        Run creates = new Run();
        Run musts = new Run().creates(1);
        Run words = new Run();
        Run removes = new Run();
        Run documents = new Run();
        Run reads = new Run();
        for (int k = 1; k <= 508; k++) {
            due(creates.create(0), k <= 12 ? k - 1 : FULL);
            due(musts.must(0, 0), k <= 6 ? k : FULL);
            due(words.word(k % 24), k <= 16 ? k : FULL);
            due(removes.remove(k % 12), BAD_QUERY);
            documents.document(k);
            due(reads.matches(), 0);
        }
        // Each call that was refused so long is made once more where it is taken.
        due(creates.remove(11), 11);
        due(creates.create(0), 11);
        due(creates.matches(), 12);
        due(musts.remove(0), 0);
        due(musts.create(0), 0);
        due(musts.must(0, 0), 1);
        words.document(0);
        due(words.word(23), 1);
        due(removes.create(0), 0);
        due(removes.remove(0), 0);
        due(documents.create(0), 0);
        due(documents.range(0, 508, 508), 1);
        due(documents.matches(), 1);
        due(reads.create(0), 0);
        due(reads.matches(), 1);
    }

    private static void manyCallsThatAreTaken() {
        says("What it is: \"at most 512 calls\", as many as can be taken and not refused");
        Run words = new Run();
        for (int k = 0; k < 30; k++) {
            for (int count = 1; count <= 16; count++) {
                due(words.word(k % 24), count);
            }
            words.document(k);
        }
        Run queries = new Run().creates(11);
        for (int k = 0; k < 250; k++) {
            due(queries.create(k % 7), 11);
            due(queries.remove(11), 11);
        }
        Run clauses = new Run();
        for (int k = 0; k < 64; k++) {
            due(clauses.create(0), 0);
            for (int count = 1; count <= 6; count++) {
                due(clauses.not(0, k % 24), count);
            }
            due(clauses.remove(0), 0);
        }
    }

    // ---- Terms ----

    private static void termsAre0To23() {
        says("Terms: \"TERMS are 0 to 23\"");
        for (int t = 0; t < 24; t++) {
            Run r = new Run().creates(5);
            due(r.word(t), 1);
            due(r.word(t), 2);
            due(r.must(0, t), 1);
            due(r.not(1, t), 1);
            due(r.should(2, t), 1);
            due(r.phrase(3, t, t), 1);
            r.dueRanking(3, 5, 0, 2, 2, 2, 4, 0);
            for (int other = 0; other < 24; other++) {
                r.must(4, other);
                due(r.matchesQuery(4), other == t);
                r.remove(4);
                r.create(0);
            }
        }
        for (int t : NO_TERMS) {
            Run r = new Run().creates(1);
            due(r.word(t), BAD_TERM);
            for (Adder adder : TERM_ADDERS) {
                due(adder.add(r, 0, t), BAD_TERM);
            }
        }
    }

    private static void atMost16Words() {
        says("Terms: \"a list of at most 16 words\"");
        for (int count = 0; count <= 16; count++) {
            Run r = new Run().creates(1);
            for (int k = 0; k < count; k++) {
                due(r.word(k), k + 1);
            }
            for (int t = 0; t < 24; t++) {
                dueClause(r, 0, r.must(0, t), t < count);
            }
            for (int t = 0; t < 23; t++) {
                dueClause(r, 0, r.phrase(0, t, t + 1), t + 1 < count);
            }
        }
        Run r = new Run().creates(1);
        for (int k = 0; k < 16; k++) {
            due(r.word(9), k + 1);
        }
        due(r.word(9), FULL);
        r.must(0, 9);
        due(r.score(0), 16);
    }

    /** The query has just got this clause, its only one; it is made anew after the look. */
    private static void dueClause(Run r, int query, int answered, boolean holds) {
        due(answered, 1);
        due(r.matchesQuery(query), holds);
        r.remove(query);
        r.create(0);
    }

    private static void numberIsAnyInt() {
        says("Terms: \"a NUMBER (any int)\"");
        for (int number : ODD_INTS) {
            for (int other : ODD_INTS) {
                Run r = new Run().creates(3);
                r.range(0, other, other);
                r.range(1, other, MAX);
                r.range(2, MIN, other);
                r.document(number);
                due(r.matchesQuery(0), number == other);
                due(r.matchesQuery(1), number >= other);
                due(r.matchesQuery(2), number <= other);
            }
        }
    }

    private static void atMostTwelveQueries() {
        says("Terms: \"There are at most twelve queries\"");
        Run r = new Run();
        for (int q = 0; q < 12; q++) {
            due(r.matches(), q);
            due(r.create(0), q);
        }
        due(r.matches(), 12);
        due(r.create(0), FULL);
        due(r.matches(), 12);
        for (int q = 0; q < 12; q++) {
            due(r.matchesQuery(q), true);
            due(r.must(q, q), 1);
        }
        due(r.matchesQuery(12), false);
        due(r.must(12, 0), BAD_QUERY);
        for (int q = 0; q < 12; q++) {
            r.document(0);
            r.word(q);
            r.dueRanking(q, 1);
        }
    }

    private static void upToSixClauses() {
        says("Terms: \"A QUERY has up to six CLAUSES\"");
        for (int failing = 0; failing <= 6; failing++) {
            Run r = new Run().creates(1).words(1);
            for (int k = 0; k < 6; k++) {
                due(r.matchesQuery(0), k <= failing);
                due(r.must(0, k == failing ? 2 : 1), k + 1);
            }
            due(r.matchesQuery(0), failing == 6);
            due(r.must(0, 2), FULL);
            due(r.matchesQuery(0), failing == 6);
        }
    }

    private static void sixClausesInEachOfTwelve() {
        says("Terms: \"at most twelve queries\", each with \"up to six CLAUSES\"");
        Run r = new Run().creates(12);
        for (int k = 0; k < 6; k++) {
            for (int q = 11; q >= 0; q--) {
                due(r.should(q, k < 5 ? 23 : q), k + 1);
            }
        }
        r.words(0, 5, 5, 11, 11, 11);
        r.dueRanking(11, 3, 5, 2, 0, 1, 1, 0, 2, 0, 3, 0, 4, 0, 6, 0, 7, 0, 8, 0, 9, 0, 10, 0);
        for (int q = 0; q < 12; q++) {
            due(r.must(q, 23), FULL);
        }
        due(r.matches(), 12);
        due(r.word(23), 7);
        due(r.score(0), 8);
        due(r.score(11), 5);
    }

    private static void mustAndNot() {
        says("Terms: \"MUST t the document has the term t\", \"NOT t it doesn't\"");
        Run r = new Run().creates(2);
        r.must(0, 3);
        r.not(1, 3);
        r.dueRanking(1, 0);
        r.words(2, 4);
        r.dueRanking(1, 0);
        for (int times = 1; times <= 14; times++) {
            r.word(3);
            r.dueRanking(0, times);
        }
        r.document(0);
        r.dueRanking(1, 0);
        for (int place = 0; place < 16; place++) {
            r.document(0);
            for (int k = 0; k < 16; k++) {
                r.word(k == place ? 3 : 2);
            }
            due(r.match(0), 0);
        }
    }

    private static void shouldIsMetOnce() {
        says("Terms: \"SHOULD t counts as met if the document has t\"");
        Run r = new Run();
        r.create(1);
        r.create(2);
        r.should(0, 3);
        r.should(1, 3);
        r.dueRanking();
        r.word(3);
        r.dueRanking(0, 1);
        for (int k = 2; k <= 16; k++) {
            r.word(3);
            due(r.matchesQuery(0), true);
            due(r.matchesQuery(1), false);
        }
        r.should(1, 3);
        due(r.matchesQuery(1), true);
    }

    private static void phraseStandsRightBefore() {
        says("Terms: \"somewhere in the document the word t stands right before the word u\"");
        duePhrase(1, 2, false);
        duePhrase(1, 2, false, 1);
        duePhrase(1, 2, false, 2);
        duePhrase(1, 2, true, 1, 2);
        duePhrase(1, 2, false, 2, 1);
        duePhrase(1, 2, false, 1, 3, 2);
        duePhrase(1, 2, false, 2, 3, 1);
        duePhrase(1, 2, true, 2, 1, 2);
        duePhrase(1, 2, true, 1, 1, 2);
        duePhrase(1, 1, false, 1);
        duePhrase(1, 1, false, 1, 2, 1);
        duePhrase(1, 1, true, 1, 1);
        duePhrase(0, 0, false, 0);
        duePhrase(0, 0, true, 0, 0);
        duePhrase(0, 0, false, 1);
        duePhrase(0, 23, true, 0, 23);
        duePhrase(23, 0, false, 0, 23);
        for (int place = 0; place < 15; place++) {
            int[] words = new int[16];
            words[place] = 23;
            words[place + 1] = 22;
            duePhrase(23, 22, true, words);
            duePhrase(22, 23, false, words);
        }
    }

    private static void duePhrase(int t, int u, boolean holds, int... words) {
        Run r = new Run().creates(1).words(words);
        r.phrase(0, t, u);
        due(r.matchesQuery(0), holds);
    }

    private static void phraseOfOneDocument() {
        says("Terms: \"in the document\" as it is now, not across two documents");
        Run r = new Run().creates(1);
        r.phrase(0, 1, 2);
        r.words(1, 2);
        due(r.matchesQuery(0), true);
        r.document(0);
        due(r.matchesQuery(0), false);
        r.word(1);
        due(r.matchesQuery(0), false);
        r.document(0);
        r.word(2);
        due(r.matchesQuery(0), false);
        for (int k = 2; k <= 16; k++) {
            r.word(1);
        }
        r.document(0);
        r.word(2);
        due(r.matchesQuery(0), false);
    }

    private static void rangeHasBothEnds() {
        says("Terms: \"lo <= the document's number <= hi\"");
        int[][] ranges = {{-1, 1}, {5, 5}, {MIN, MIN}, {MIN, MIN + 1}, {MAX, MAX}, {MAX - 1, MAX}, {MIN, MAX},
            {MIN + 1, MAX - 1}, {0, MAX}, {MIN, 0}, {MIN, -1}, {1, MAX}, {0, 0}};
        for (int[] range : ranges) {
            Run r = new Run().creates(1);
            r.range(0, range[0], range[1]);
            dueOnNumber(r, range[0], true);
            dueOnNumber(r, range[1], true);
            if (range[0] != MIN) {
                dueOnNumber(r, range[0] - 1, false);
                dueOnNumber(r, MIN, false);
            }
            if (range[1] != MAX) {
                dueOnNumber(r, range[1] + 1, false);
                dueOnNumber(r, MAX, false);
            }
        }
    }

    private static void dueOnNumber(Run r, int number, boolean holds) {
        r.document(number);
        due(r.matchesQuery(0), holds);
        due(r.matches(), holds ? 1 : 0);
    }

    private static void leastNumberOfShoulds() {
        says("Terms: \"at least that many of its SHOULD clauses are met\"");
        for (int least = 0; least <= 6; least++) {
            for (int shoulds = 0; shoulds <= 6; shoulds++) {
                Run r = new Run();
                r.create(least);
                for (int t = 0; t < shoulds; t++) {
                    r.should(0, t);
                }
                due(r.matchesQuery(0), least == 0);
                for (int met = 1; met <= shoulds; met++) {
                    r.word(shoulds - met);
                    due(r.matchesQuery(0), met >= least);
                }
            }
        }
    }

    private static void otherClausesAreNoShoulds() {
        says("Terms: \"a LEAST number of SHOULD clauses\", to which no other kind counts");
        Run r = new Run().words(1, 2);
        for (int q = 0; q < 4; q++) {
            r.create(1);
        }
        r.must(0, 1);
        r.not(1, 3);
        r.phrase(2, 1, 2);
        r.range(3, 0, 0);
        r.dueRanking();
        for (int q = 0; q < 4; q++) {
            r.should(q, 2);
        }
        r.dueRanking(2, 6, 0, 2, 1, 1, 3, 1);
    }

    private static void everyClauseHolds() {
        says("Terms: \"every MUST, NOT, PHRASE and RANGE clause holds\"");
        for (int failing = 0; failing < 5; failing++) {
            for (int place = 0; place < 6; place++) {
                Run r = new Run().words(1, 2);
                r.create(0);
                for (int k = 0; k < 6; k++) {
                    addHolding(r, k % 5, k == place && failing < 4 ? failing : -1);
                }
                due(r.matchesQuery(0), failing == 4);
                due(r.matches(), failing == 4 ? 1 : 0);
            }
        }
    }

    /** Adds a clause that holds on the words 1 2 and the number 0, or a failing one of that kind. */
    private static void addHolding(Run r, int kind, int failing) {
        switch (failing) {
            case 0: r.must(0, 3); return;
            case 1: r.not(0, 2); return;
            case 2: r.phrase(0, 2, 1); return;
            case 3: r.range(0, 1, MAX); return;
            default: break;
        }
        switch (kind) {
            case 0: r.must(0, 1); break;
            case 1: r.not(0, 3); break;
            case 2: r.phrase(0, 1, 2); break;
            case 3: r.range(0, MIN, 0); break;
            default: r.should(0, 9); break;
        }
    }

    private static void noClausesAndLeast0() {
        says("Terms: \"(A query without clauses and least 0 matches every document.)\"");
        for (int number : ODD_INTS) {
            Run r = new Run().creates(1);
            for (int least = 1; least <= 6; least++) {
                r.create(least);
            }
            r.dueRanking(0, 0);
            r.document(number);
            r.dueRanking(0, 0);
            for (int k = 0; k < 16; k++) {
                r.word(k);
                r.dueRanking(0, 0);
            }
        }
    }

    private static void scoreSums() {
        says("Terms: \"THE SCORE of a match is the sum, over its MUST and SHOULD clauses, of how often"
            + " the document has the term, and 5 for every PHRASE clause\"");
        Run r = new Run().creates(8);
        for (int k = 0; k < 6; k++) {
            r.must(0, 0);
            r.should(1, 0);
            r.phrase(2, 0, 0);
            r.not(3, 1);
            r.range(4, MIN, MAX);
            r.should(5, 23);
        }
        r.must(6, 0);
        r.should(7, 0);
        r.should(7, 23);
        r.phrase(7, 0, 0);
        r.dueRanking(1, 0, 3, 0, 4, 0, 5, 0);
        r.word(0);
        r.document(0);
        for (int k = 0; k < 16; k++) {
            r.word(0);
        }
        r.dueRanking(0, 96, 1, 96, 2, 30, 7, 21, 6, 16, 3, 0, 4, 0, 5, 0);
    }

    private static void readingChangesNothing() {
        says("Terms: \"The calls below change nothing that any call answers\"");
        Call[] readers = {r -> r.matches(), r -> r.match(0), r -> r.match(11), r -> r.match(-1), r -> r.match(MIN),
            r -> r.match(MAX), r -> r.score(0), r -> r.score(11), r -> r.score(-1), r -> r.score(MIN),
            r -> r.score(MAX), r -> r.matchesQuery(0) ? 1 : 0, r -> r.matchesQuery(11) ? 1 : 0,
            r -> r.matchesQuery(12) ? 1 : 0, r -> r.matchesQuery(MIN) ? 1 : 0, r -> r.matchesQuery(MAX) ? 1 : 0};
        for (Calls state : STATES) {
            for (Call reader : readers) {
                Run once = new Run();
                state.on(once);
                changesNothing(state, reader, reader.on(once));
            }
        }
    }

    private static void readingIsAboutNow() {
        says("Terms: \"they are about the document and the queries as they are now\"");
        Run r = new Run();
        r.dueRanking();
        r.create(0);
        r.dueRanking(0, 0);
        r.must(0, 4);
        r.dueRanking();
        r.word(4);
        r.dueRanking(0, 1);
        r.word(4);
        r.dueRanking(0, 2);
        r.phrase(0, 4, 4);
        r.dueRanking(0, 7);
        r.create(0);
        r.dueRanking(0, 7, 1, 0);
        r.range(1, 1, 1);
        r.dueRanking(0, 7);
        r.document(1);
        r.dueRanking(1, 0);
        r.should(1, 5);
        r.word(5);
        r.dueRanking(1, 1);
        r.not(1, 5);
        r.dueRanking();
        r.document(1);
        r.dueRanking(1, 0);
        r.remove(1);
        r.dueRanking();
    }

    // ---- promise 1 ----

    private static void newObjectHasNoQueries() {
        says("promise 1: \"No queries\"");
        sameOnUsedNeighbour(r -> {
            r.dueRanking();
            for (int q = -1; q <= 12; q++) {
                due(r.matchesQuery(q), false);
                due(r.remove(q), BAD_QUERY);
                due(r.should(q, 0), BAD_QUERY);
                due(r.range(q, 0, 0), BAD_QUERY);
            }
            for (int q = 0; q < 12; q++) {
                due(r.create(0), q);
            }
        });
    }

    private static void newDocumentIsEmpty() {
        says("promise 1: \"the document is empty\"");
        sameOnUsedNeighbour(r -> {
            r.create(0);
            for (int t = 0; t < 24; t++) {
                dueClause(r, 0, r.must(0, t), false);
                dueClause(r, 0, r.not(0, t), true);
                dueClause(r, 0, r.phrase(0, t, t), false);
            }
            for (int k = 1; k <= 16; k++) {
                due(r.word(0), k);
            }
        });
    }

    private static void newNumberIs0() {
        says("promise 1: \"with the number 0\"");
        sameOnUsedNeighbour(r -> {
            r.create(0);
            dueClause(r, 0, r.range(0, 0, 0), true);
            dueClause(r, 0, r.range(0, 0, MAX), true);
            dueClause(r, 0, r.range(0, MIN, 0), true);
            dueClause(r, 0, r.range(0, MIN, -1), false);
            dueClause(r, 0, r.range(0, 1, MAX), false);
            r.word(3);
            dueClause(r, 0, r.range(0, 0, 0), true);
        });
    }

    /** The calls on a new object, and again after another object has been filled. */
    private static void sameOnUsedNeighbour(Calls calls) {
        calls.on(new Run());
        Run neighbour = new Run();
        twelveQueries(neighbour);
        neighbour.document(MAX);
        for (int k = 0; k < 16; k++) {
            neighbour.word(k);
        }
        calls.on(new Run());
    }

    // ---- promise 2 ----

    private static void createTakesLeasts0To6() {
        says("promise 2: \"least not in 0 to 6: BAD_LEAST\"");
        for (int least = 0; least <= 6; least++) {
            due(new Run().create(least), 0);
        }
        for (int least : NO_LEASTS) {
            due(new Run().create(least), BAD_LEAST);
        }
    }

    private static void createIsFullAtTwelve() {
        says("promise 2: \"there are twelve: FULL\"");
        for (int least = 0; least <= 6; least++) {
            Run r = new Run().creates(11);
            due(r.create(least), 11);
            due(r.create(least), FULL);
            due(r.create(least), FULL);
            due(r.remove(11), 11);
            due(r.create(least), 11);
            due(r.create(least), FULL);
        }
    }

    private static void refusedCreateChangesNothing() {
        says("promise 2: \"nothing changes then\", after BAD_LEAST");
        for (Calls state : STATES) {
            for (int least : NO_LEASTS) {
                changesNothing(state, r -> r.create(least), BAD_LEAST);
            }
        }
        says("promise 2: \"nothing changes then\", after FULL");
        for (int least = 0; least <= 6; least++) {
            int allowed = least;
            changesNothing(BoundaryTest::twelveQueries, r -> r.create(allowed), FULL);
        }
    }

    private static void createTakesSmallestFree() {
        says("promise 2: \"the smallest number from 0 that no query has\"");
        Run r = new Run().creates(3);
        r.remove(0);
        due(r.create(0), 0);
        due(r.create(0), 3);
        for (int first = 0; first < 12; first++) {
            for (int second = 0; second < 12; second++) {
                if (first != second) {
                    dueFreed(first, second);
                }
            }
        }
        Run all = new Run().creates(12);
        for (int q = 11; q >= 0; q--) {
            due(all.remove(q), q);
        }
        for (int q = 0; q < 12; q++) {
            due(all.create(0), q);
        }
    }

    private static void dueFreed(int first, int second) {
        Run r = new Run().creates(12);
        r.remove(first);
        r.remove(second);
        due(r.create(0), first < second ? first : second);
        due(r.create(0), first < second ? second : first);
        due(r.create(0), FULL);
    }

    private static void createdHasNoClauses() {
        says("promise 2: \"Stores a query without clauses with this least number\"");
        for (int q = 0; q < 12; q++) {
            Run r = new Run();
            for (int k = 0; k < 12; k++) {
                r.create(6);
            }
            for (int k = 0; k < 6; k++) {
                r.must(q, 3);
            }
            r.remove(q);
            due(r.create(0), q);
            r.dueRanking(q, 0);
            due(r.should(q, 2), 1);
            r.dueRanking(q, 0);
            r.word(3);
            r.dueRanking(q, 0);
            r.word(2);
            r.dueRanking(q, 1);
            r.remove(q);
            due(r.create(1), q);
            r.dueRanking();
        }
    }

    // ---- promises 3 to 7 ----

    private static void addToNoSuchQuery() {
        for (int a = 0; a < ADDERS.length; a++) {
            Adder adder = ADDERS[a];
            says(ADDER_NAMES[a] + ": \"No such query: BAD_QUERY\"");
            Run none = new Run();
            Run one = new Run().creates(1);
            Run twelve = new Run().creates(12);
            for (int q = 0; q < 12; q++) {
                due(adder.add(none, q, 0), BAD_QUERY);
                due(adder.add(one, q, 0), q == 0 ? 1 : BAD_QUERY);
                due(adder.add(twelve, q, 0), 1);
                twelve.remove(q);
                due(adder.add(twelve, q, 0), BAD_QUERY);
            }
            for (int q : NO_QUERY_NUMBERS) {
                due(adder.add(none, q, 0), BAD_QUERY);
                due(adder.add(one, q, 0), BAD_QUERY);
                due(adder.add(new Run().creates(12), q, 0), BAD_QUERY);
            }
            says(ADDER_NAMES[a] + ": \"nothing changes then\", after BAD_QUERY");
            for (Calls state : STATES) {
                for (int q : NO_QUERY_NUMBERS) {
                    changesNothing(state, r -> adder.add(r, q, 3), BAD_QUERY);
                }
            }
            changesNothing(BoundaryTest::newObject, r -> adder.add(r, 0, 3), BAD_QUERY);
            changesNothing(BoundaryTest::newObject, r -> adder.add(r, 11, 3), BAD_QUERY);
            changesNothing(BoundaryTest::someQueries, r -> adder.add(r, 1, 3), BAD_QUERY);
            changesNothing(BoundaryTest::someQueries, r -> adder.add(r, 5, 3), BAD_QUERY);
            changesNothing(BoundaryTest::fullOneRemoved, r -> adder.add(r, 3, 3), BAD_QUERY);
        }
    }

    private static void addOfNoTerm() {
        for (int a = 0; a < TERM_ADDERS.length; a++) {
            Adder adder = TERM_ADDERS[a];
            String name = "promises 3 to 6, " + TERM_ADDER_NAMES[a];
            says(name + ": \"not in 0 to 23: BAD_TERM\"");
            for (int t = 0; t <= 23; t++) {
                due(adder.add(new Run().creates(1), 0, t), 1);
            }
            for (int t : NO_TERMS) {
                due(adder.add(new Run().creates(1), 0, t), BAD_TERM);
            }
            says(name + ": \"nothing changes then\", after BAD_TERM");
            for (int t : NO_TERMS) {
                changesNothing(BoundaryTest::someQueries, r -> adder.add(r, 0, t), BAD_TERM);
                changesNothing(BoundaryTest::someQueries, r -> adder.add(r, 3, t), BAD_TERM);
                changesNothing(BoundaryTest::twelveQueries, r -> adder.add(r, 10, t), BAD_TERM);
                changesNothing(BoundaryTest::twelveQueries, r -> adder.add(r, 11, t), BAD_TERM);
                changesNothing(BoundaryTest::sixteenWords, r -> adder.add(r, 4, t), BAD_TERM);
            }
        }
    }

    private static void addToSixClauses() {
        for (int a = 0; a < ADDERS.length; a++) {
            Adder adder = ADDERS[a];
            says(ADDER_NAMES[a] + ": \"it has six clauses: FULL\", \"Else answers how many clauses it has\"");
            for (int q = 0; q < 12; q++) {
                Run r = new Run().creates(12);
                for (int k = 1; k <= 6; k++) {
                    due(adder.add(r, q, k), k);
                }
                due(adder.add(r, q, 0), FULL);
                due(adder.add(r, q, 23), FULL);
                due(adder.add(r, (q + 1) % 12, 0), 1);
            }
            for (int b = 0; b < ADDERS.length; b++) {
                Run r = new Run().creates(1);
                for (int k = 1; k <= 5; k++) {
                    due(ADDERS[b].add(r, 0, 3), k);
                }
                due(adder.add(r, 0, 3), 6);
                due(ADDERS[b].add(r, 0, 3), FULL);
            }
            says(ADDER_NAMES[a] + ": \"nothing changes then\", after FULL");
            for (int t : new int[] {0, 2, 3, 23}) {
                changesNothing(BoundaryTest::twelveQueries, r -> adder.add(r, 0, t), FULL);
                changesNothing(BoundaryTest::twelveQueries, r -> adder.add(r, 10, t), FULL);
                changesNothing(BoundaryTest::fullOneRemoved, r -> adder.add(r, 2, t), FULL);
                changesNothing(BoundaryTest::fullOneRemoved, r -> adder.add(r, 4, t), FULL);
                changesNothing(BoundaryTest::fullLast, r -> adder.add(r, 11, t), FULL);
            }
        }
    }

    /** The last of twelve queries has six clauses, so nothing stands behind them. */
    private static void fullLast(Run r) {
        r.creates(12);
        for (int k = 0; k < 6; k++) {
            r.should(11, k);
        }
        r.words(1, 2, 3);
    }

    private static void phraseLooksAtBothTerms() {
        says("promise 6: \"t or u not in 0 to 23 being BAD_TERM\"");
        for (int t : NO_TERMS) {
            for (int u : NO_TERMS) {
                changesNothing(BoundaryTest::someQueries, r -> r.phrase(0, t, u), BAD_TERM);
            }
            for (int u : new int[] {0, 23}) {
                due(new Run().creates(1).phrase(0, t, u), BAD_TERM);
                due(new Run().creates(1).phrase(0, u, t), BAD_TERM);
            }
        }
        for (int t : new int[] {0, 23}) {
            for (int u : new int[] {0, 23}) {
                due(new Run().creates(1).phrase(0, t, u), 1);
            }
        }
    }

    private static void rangeTakesAnyInts() {
        says("promise 7: \"lo, hi any ints\", \"without BAD_TERM\"");
        int[] ints = {MIN, MIN + 1, -24, -1, 0, 23, 24, 25, MAX - 1, MAX};
        for (int lo : ints) {
            for (int hi : ints) {
                Run r = new Run().creates(1);
                due(r.range(0, lo, hi), 1);
                for (int number : ints) {
                    dueOnNumber(r, number, lo <= number && number <= hi);
                }
            }
        }
    }

    private static void rangeUpsideDownNeverHolds() {
        says("promise 7: \"lo > hi never holds\"");
        int[][] ranges = {{1, 0}, {0, -1}, {MIN + 1, MIN}, {MAX, MAX - 1}, {MAX, MIN}, {MAX, 0}, {0, MIN}, {7, -7}};
        for (int[] range : ranges) {
            Run r = new Run().creates(1);
            due(r.range(0, range[0], range[1]), 1);
            dueOnNumber(r, range[0], false);
            dueOnNumber(r, range[1], false);
            for (int number : ODD_INTS) {
                dueOnNumber(r, number, false);
            }
        }
    }

    // ---- promise 8 ----

    private static void removeOfNoQuery() {
        says("promise 8: \"BAD_QUERY\"");
        Run none = new Run();
        Run twelve = new Run().creates(12);
        for (int q : NO_QUERY_NUMBERS) {
            due(none.remove(q), BAD_QUERY);
            due(twelve.remove(q), BAD_QUERY);
        }
        for (int q = 0; q < 12; q++) {
            due(none.remove(q), BAD_QUERY);
            due(twelve.remove(q), 11 - q);
            due(twelve.remove(q), BAD_QUERY);
        }
        Run three = new Run().creates(3);
        due(three.remove(3), BAD_QUERY);
        due(three.remove(2), 2);
        says("promise 8: \"nothing changes\"");
        for (Calls state : STATES) {
            for (int q : NO_QUERY_NUMBERS) {
                changesNothing(state, r -> r.remove(q), BAD_QUERY);
            }
        }
        changesNothing(BoundaryTest::newObject, r -> r.remove(0), BAD_QUERY);
        changesNothing(BoundaryTest::newObject, r -> r.remove(11), BAD_QUERY);
        changesNothing(BoundaryTest::someQueries, r -> r.remove(1), BAD_QUERY);
        changesNothing(BoundaryTest::someQueries, r -> r.remove(5), BAD_QUERY);
        changesNothing(BoundaryTest::fullOneRemoved, r -> r.remove(3), BAD_QUERY);
    }

    private static void removeTellsHowManyAreLeft() {
        says("promise 8: \"Else answers how many are left\"");
        for (int count = 1; count <= 12; count++) {
            Run r = new Run().creates(count);
            r.must(0, 3);
            for (int q = count - 1; q >= 0; q--) {
                due(r.remove(q), q);
            }
            due(r.remove(0), BAD_QUERY);
            due(r.create(0), 0);
            due(r.remove(0), 0);
        }
        Run r = new Run().creates(12);
        due(r.create(0), FULL);
        due(r.create(7), BAD_LEAST);
        due(r.remove(12), BAD_QUERY);
        due(r.remove(11), 11);
        due(r.create(6), 11);
        due(r.remove(0), 11);
    }

    private static void removeTakesOneAway() {
        says("promise 8: \"Takes a query away\"");
        for (int gone = 0; gone < 12; gone++) {
            Run r = new Run().creates(12);
            due(r.remove(gone), 11);
            due(r.matches(), 11);
            for (int q = 0; q < 12; q++) {
                due(r.matchesQuery(q), q != gone);
                due(r.match(q), q < gone ? q : q < 11 ? q + 1 : NONE);
                due(r.should(q, 0), q == gone ? BAD_QUERY : 1);
            }
        }
    }

    // ---- promise 9 ----

    private static void wordOfNoTerm() {
        says("promise 9: \"t not in 0 to 23: BAD_TERM\"");
        for (int t = 0; t <= 23; t++) {
            due(new Run().word(t), 1);
        }
        for (int t : NO_TERMS) {
            due(new Run().word(t), BAD_TERM);
        }
        says("promise 9: \"nothing changes then\", after BAD_TERM");
        for (Calls state : STATES) {
            for (int t : NO_TERMS) {
                changesNothing(state, r -> r.word(t), BAD_TERM);
            }
        }
    }

    private static void wordIsFullAtSixteen() {
        says("promise 9: \"it has sixteen: FULL\", \"Else answers how many it has\"");
        for (int t = 0; t <= 23; t++) {
            Run r = new Run();
            for (int k = 1; k <= 16; k++) {
                due(r.word((t + k) % 24), k);
            }
            due(r.word(t), FULL);
            due(r.word(t), FULL);
            r.document(0);
            due(r.word(t), 1);
        }
        says("promise 9: \"nothing changes then\", after FULL");
        for (int t = 0; t <= 23; t++) {
            int term = t;
            changesNothing(BoundaryTest::sixteenWords, r -> r.word(term), FULL);
        }
    }

    // ---- promise 10 ----

    private static void documentBecomesEmpty() {
        says("promise 10: \"The document becomes empty\"");
        for (int count = 0; count <= 16; count++) {
            Run r = new Run().creates(3);
            r.must(0, 0);
            r.not(1, 0);
            r.phrase(2, 0, 0);
            for (int k = 0; k < count; k++) {
                r.word(0);
            }
            r.document(0);
            r.dueRanking(1, 0);
            due(r.word(1), 1);
            r.dueRanking(1, 0);
            due(r.word(0), 2);
            r.dueRanking(0, 1);
            for (int k = 3; k <= 16; k++) {
                due(r.word(1), k);
            }
            due(r.word(1), FULL);
        }
    }

    private static void documentHasThisNumber() {
        says("promise 10: \"and has this number\"");
        for (int number : ODD_INTS) {
            Run r = new Run().creates(2);
            r.range(0, number, number);
            r.range(1, 5, 5);
            r.document(5);
            due(r.matchesQuery(0), false);
            due(r.matchesQuery(1), true);
            r.word(3);
            r.document(number);
            due(r.matchesQuery(0), true);
            due(r.matchesQuery(1), false);
            r.word(3);
            due(r.matchesQuery(0), true);
            r.document(5);
            r.document(number);
            due(r.matchesQuery(0), true);
        }
    }

    private static void documentLeavesQueries() {
        says("promise 10: the document alone changes, not the queries");
        for (int number : ODD_INTS) {
            Run r = new Run();
            r.create(1);
            r.creates(10);
            r.should(0, 3);
            r.document(number);
            due(r.matches(), 10);
            due(r.should(0, 4), 2);
            due(r.create(0), 11);
            due(r.create(0), FULL);
            r.word(4);
            due(r.match(0), 0);
        }
    }

    // ---- promises 11 to 14 ----

    private static void matchesFrom0To12() {
        says("promise 11: \"How many queries match\", from none to twelve");
        for (int matching = 0; matching <= 12; matching++) {
            Run r = new Run();
            for (int q = 0; q < 12; q++) {
                r.create(q < matching ? 1 : 2);
                r.should(q, 3);
            }
            due(r.matches(), 0);
            r.word(3);
            due(r.matches(), matching);
            due(r.match(11), matching == 12 ? 11 : NONE);
        }
    }

    private static void matchIsOrderedByScore() {
        says("promise 12: \"ordered by score, the greatest first\"");
        Run rising = new Run().creates(12);
        Run falling = new Run().creates(12);
        for (int q = 0; q < 12; q++) {
            rising.should(q, q);
            falling.should(q, 11 - q);
        }
        // Sixteen words give five different counts at most from 1 on: 5 4 3 2 1.
        int[] words = {11, 11, 11, 11, 11, 9, 9, 9, 9, 5, 5, 5, 4, 4, 0};
        rising.words(words);
        rising.dueRanking(11, 5, 9, 4, 5, 3, 4, 2, 0, 1, 1, 0, 2, 0, 3, 0, 6, 0, 7, 0, 8, 0, 10, 0);
        falling.words(words);
        falling.dueRanking(0, 5, 2, 4, 6, 3, 7, 2, 11, 1, 1, 0, 3, 0, 4, 0, 5, 0, 8, 0, 9, 0, 10, 0);
        Run close = new Run().creates(2);
        for (int k = 0; k < 6; k++) {
            close.must(1, 8);
            if (k < 5) {
                close.must(0, 8);
            }
        }
        for (int k = 1; k <= 16; k++) {
            close.word(8);
            close.dueRanking(1, 6 * k, 0, 5 * k);
        }
    }

    private static void equalScoresSmallerFirst() {
        says("promise 12: \"of equal ones the smaller query first\"");
        Run twelve = new Run().creates(12);
        for (int i = 0; i < 12; i++) {
            due(twelve.match(i), i);
        }
        for (int q = 11; q >= 0; q--) {
            twelve.must(q, 2);
        }
        twelve.words(2, 2, 2);
        for (int i = 0; i < 12; i++) {
            due(twelve.match(i), i);
            due(twelve.score(i), 3);
        }
        twelve.remove(0);
        due(twelve.match(0), 1);
        twelve.create(0);
        twelve.must(0, 2);
        due(twelve.match(0), 0);
        Run phraseAndWords = new Run().creates(3).words(1, 2, 2, 2, 2, 2);
        phraseAndWords.must(0, 2);
        phraseAndWords.phrase(1, 1, 2);
        phraseAndWords.should(2, 2);
        phraseAndWords.dueRanking(0, 5, 1, 5, 2, 5);
        phraseAndWords.word(2);
        phraseAndWords.dueRanking(0, 6, 2, 6, 1, 5);
    }

    private static void noSuchMatch() {
        int[] never = {-1, -5, 12, MIN, MIN + 1, MAX - 1, MAX};
        for (int count = 0; count <= 12; count++) {
            Run r = new Run().creates(12);
            for (int q = count; q < 12; q++) {
                r.must(q, 3);
            }
            for (int q = 0; q < count; q++) {
                r.should(q, 4);
            }
            r.word(4);
            says("promise 12: \"NONE if there is none\", " + count + " matches");
            for (int i = 0; i < 12; i++) {
                due(r.match(i), i < count ? i : NONE);
            }
            for (int i : never) {
                due(r.match(i), NONE);
            }
            says("promise 13: \"0 if there is none\", " + count + " matches");
            for (int i = 0; i < 12; i++) {
                due(r.score(i), i < count ? 1 : 0);
            }
            for (int i : never) {
                due(r.score(i), 0);
            }
        }
        says("promises 12 and 13: no match at all in a new object");
        Run r = new Run();
        for (int i : never) {
            due(r.match(i), NONE);
            due(r.score(i), 0);
        }
        due(r.match(0), NONE);
        due(r.score(0), 0);
    }

    private static void scoreOfThatMatch() {
        says("promise 13: \"The score of that match\", by place and not by query");
        Run r = new Run().creates(12).words(7, 7, 7);
        r.must(11, 7);
        r.must(0, 8);
        due(r.score(0), 3);
        for (int i = 1; i <= 12; i++) {
            due(r.score(i), 0);
        }
        r.word(8);
        due(r.score(0), 3);
        due(r.score(1), 1);
        due(r.score(2), 0);
    }

    private static void matchesNoSuchQuery() {
        says("promise 14: \"false if there is no such query\"");
        Run none = new Run();
        Run twelve = new Run().creates(12);
        for (int q : NO_QUERY_NUMBERS) {
            due(none.matchesQuery(q), false);
            due(twelve.matchesQuery(q), false);
        }
        for (int q = 0; q < 12; q++) {
            due(none.matchesQuery(q), false);
            due(twelve.matchesQuery(q), true);
            twelve.remove(q);
            due(twelve.matchesQuery(q), false);
        }
        Run three = new Run().creates(3);
        due(three.matchesQuery(2), true);
        due(three.matchesQuery(3), false);
        due(three.matchesQuery(NONE), false);
    }

    private static void whetherTheQueryMatches() {
        says("promise 14: \"Whether the query matches\"");
        Run r = new Run().creates(12);
        for (int q = 0; q < 12; q++) {
            r.must(q, q);
            due(r.matchesQuery(q), false);
        }
        for (int t = 0; t < 12; t++) {
            r.document(0);
            r.word(t);
            for (int q = 0; q < 12; q++) {
                due(r.matchesQuery(q), q == t);
            }
        }
    }

    // ---- promise 15 ----

    private static void createRefusesInOrder() {
        says("promise 15: create tests BAD_LEAST ahead of FULL");
        for (int least : NO_LEASTS) {
            changesNothing(BoundaryTest::twelveQueries, r -> r.create(least), BAD_LEAST);
        }
        changesNothing(BoundaryTest::twelveQueries, r -> r.create(0), FULL);
        changesNothing(BoundaryTest::twelveQueries, r -> r.create(6), FULL);
    }

    private static void addersRefuseInOrder() {
        for (int a = 0; a < TERM_ADDERS.length; a++) {
            Adder adder = TERM_ADDERS[a];
            String name = TERM_ADDER_NAMES[a];
            says("promise 15: " + name + ": BAD_QUERY ahead of BAD_TERM");
            for (int t : NO_TERMS) {
                for (int q : NO_QUERY_NUMBERS) {
                    due(adder.add(new Run(), q, t), BAD_QUERY);
                    due(adder.add(new Run().creates(12), q, t), BAD_QUERY);
                }
                changesNothing(BoundaryTest::newObject, r -> adder.add(r, 0, t), BAD_QUERY);
                changesNothing(BoundaryTest::someQueries, r -> adder.add(r, 1, t), BAD_QUERY);
                changesNothing(BoundaryTest::fullOneRemoved, r -> adder.add(r, 3, t), BAD_QUERY);
            }
            says("promise 15: " + name + ": BAD_QUERY ahead of FULL");
            changesNothing(BoundaryTest::fullOneRemoved, r -> adder.add(r, 3, 0), BAD_QUERY);
            says("promise 15: " + name + ": BAD_TERM ahead of FULL");
            for (int t : NO_TERMS) {
                changesNothing(BoundaryTest::twelveQueries, r -> adder.add(r, 0, t), BAD_TERM);
                changesNothing(BoundaryTest::fullOneRemoved, r -> adder.add(r, 4, t), BAD_TERM);
            }
            due(adder.add(fullQuery(), 0, 0), FULL);
            due(adder.add(fullQuery(), 0, 23), FULL);
        }
    }

    private static Run fullQuery() {
        Run r = new Run().creates(1);
        for (int k = 0; k < 6; k++) {
            r.not(0, 0);
        }
        return r;
    }

    private static void rangeRefusesInOrder() {
        says("promise 15: range tests BAD_QUERY ahead of FULL, and no term");
        for (int odd : NO_TERMS) {
            changesNothing(BoundaryTest::fullOneRemoved, r -> r.range(3, odd, odd), BAD_QUERY);
            changesNothing(BoundaryTest::fullOneRemoved, r -> r.range(4, odd, odd), FULL);
            changesNothing(BoundaryTest::twelveQueries, r -> r.range(12, odd, odd), BAD_QUERY);
            changesNothing(BoundaryTest::twelveQueries, r -> r.range(10, odd, 0), FULL);
        }
    }

    private static void wordRefusesInOrder() {
        says("promise 15: word tests BAD_TERM ahead of FULL");
        for (int t : NO_TERMS) {
            changesNothing(BoundaryTest::sixteenWords, r -> r.word(t), BAD_TERM);
        }
        changesNothing(BoundaryTest::sixteenWords, r -> r.word(0), FULL);
        changesNothing(BoundaryTest::sixteenWords, r -> r.word(23), FULL);
    }

    public static void main(String[] args) {
        lastOf512Calls();
        nearly512CallsOfOneKind();
        manyCallsThatAreTaken();
        termsAre0To23();
        atMost16Words();
        numberIsAnyInt();
        atMostTwelveQueries();
        upToSixClauses();
        sixClausesInEachOfTwelve();
        mustAndNot();
        shouldIsMetOnce();
        phraseStandsRightBefore();
        phraseOfOneDocument();
        rangeHasBothEnds();
        leastNumberOfShoulds();
        otherClausesAreNoShoulds();
        everyClauseHolds();
        noClausesAndLeast0();
        scoreSums();
        readingChangesNothing();
        readingIsAboutNow();
        newObjectHasNoQueries();
        newDocumentIsEmpty();
        newNumberIs0();
        createTakesLeasts0To6();
        createIsFullAtTwelve();
        refusedCreateChangesNothing();
        createTakesSmallestFree();
        createdHasNoClauses();
        addToNoSuchQuery();
        addOfNoTerm();
        addToSixClauses();
        phraseLooksAtBothTerms();
        rangeTakesAnyInts();
        rangeUpsideDownNeverHolds();
        removeOfNoQuery();
        removeTellsHowManyAreLeft();
        removeTakesOneAway();
        wordOfNoTerm();
        wordIsFullAtSixteen();
        documentBecomesEmpty();
        documentHasThisNumber();
        documentLeavesQueries();
        matchesFrom0To12();
        matchIsOrderedByScore();
        equalScoresSmallerFirst();
        noSuchMatch();
        scoreOfThatMatch();
        matchesNoSuchQuery();
        whetherTheQueryMatches();
        createRefusesInOrder();
        addersRefuseInOrder();
        rangeRefusesInOrder();
        wordRefusesInOrder();
        System.out.println(wrong == 0
            ? "all answers are as due, in " + tests + " tests"
            : wrong + " answers are not as due");
        if (wrong != 0) {
            System.exit(1);
        }
    }
}
