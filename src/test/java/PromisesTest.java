/** For each promise of the document, by number: ordinary inputs, the edges it names, wrong inputs. */
public final class PromisesTest {
    private static final int MIN = Integer.MIN_VALUE;
    private static final int MAX = Integer.MAX_VALUE;
    private static int wrong = 0;
    private static int promise = 0;

    private static void due(String call, int got, int want) {
        if (got != want) {
            wrong++;
            System.out.println("promise " + promise + ": " + call + " answered " + got + ", due is " + want);
        }
    }

    private static void due(String call, boolean got, boolean want) {
        due(call, got ? 1 : 0, want ? 1 : 0);
    }

    private static void words(Percolator p, int... terms) {
        for (int t : terms) {
            p.word(t);
        }
    }

    private static Percolator withQueries(int count) {
        Percolator p = new Percolator();
        for (int k = 0; k < count; k++) {
            p.create(0);
        }
        return p;
    }

    /** The matches in order, each as query:score, read up to one past the last. */
    private static void dueRanking(Percolator p, int... queriesAndScores) {
        int count = queriesAndScores.length / 2;
        due("matches()", p.matches(), count);
        for (int i = 0; i < count; i++) {
            due("match(" + i + ")", p.match(i), queriesAndScores[2 * i]);
            due("score(" + i + ")", p.score(i), queriesAndScores[2 * i + 1]);
        }
        due("match(" + count + ")", p.match(count), Percolator.NONE);
        due("score(" + count + ")", p.score(count), 0);
    }

    private static void promise1NewObject() {
        promise = 1;
        Percolator p = new Percolator();
        dueRanking(p);
        for (int q = -1; q <= 12; q++) {
            due("matchesQuery(" + q + ")", p.matchesQuery(q), false);
            due("must(" + q + ", 0)", p.must(q, 0), Percolator.BAD_QUERY);
            due("remove(" + q + ")", p.remove(q), Percolator.BAD_QUERY);
        }
        due("create(0)", p.create(0), 0);
        due("range(0, 0, 0)", p.range(0, 0, 0), 1);
        due("matchesQuery(0), number 0", p.matchesQuery(0), true);
        for (int t = 0; t < 24; t++) {
            int q = p.create(0);
            p.must(q, t);
            due("matchesQuery of must " + t + " on no words", p.matchesQuery(q), false);
            p.remove(q);
        }
        due("word(0)", p.word(0), 1);
        due("a second object's word(0)", new Percolator().word(0), 1);
        due("a second object's create(0)", new Percolator().create(0), 0);
    }

    private static void promise2Create() {
        promise = 2;
        Percolator p = new Percolator();
        for (int bad : new int[] {-1, 7, MIN, MAX}) {
            due("create(" + bad + ")", p.create(bad), Percolator.BAD_LEAST);
        }
        due("matches() after refusals", p.matches(), 0);
        for (int k = 0; k < 12; k++) {
            due("create(" + k % 7 + ")", p.create(k % 7), k);
        }
        due("create(0) as the 13th", p.create(0), Percolator.FULL);
        due("matches()", p.matches(), 2);
        p.remove(8);
        p.remove(3);
        p.remove(11);
        due("create(0), smallest free", p.create(0), 3);
        due("create(0), next free", p.create(0), 8);
        due("create(0), last free", p.create(0), 11);
        due("create(0), full again", p.create(0), Percolator.FULL);

        Percolator fresh = withQueries(1);
        fresh.must(0, 5);
        fresh.remove(0);
        due("create(0) over a removed one", fresh.create(0), 0);
        due("matchesQuery(0), without the old clause", fresh.matchesQuery(0), true);
        due("not(0, 1), counted from none", fresh.not(0, 1), 1);
        fresh.remove(0);
        due("create(1) over a removed one", fresh.create(1), 0);
        due("matchesQuery(0), with the new least", fresh.matchesQuery(0), false);

        for (int least = 0; least <= 6; least++) {
            Percolator q = new Percolator();
            q.create(least);
            q.word(4);
            for (int met = 0; met <= 6; met++) {
                due("matchesQuery(0), least " + least + ", met " + met, q.matchesQuery(0), met >= least);
                q.should(0, 4);
            }
        }
    }

    private interface Adder {
        int add(Percolator p, int query, int t);
    }

    private static void termClauseAnswers(String name, Adder adder) {
        Percolator p = withQueries(2);
        for (int q : new int[] {-1, 2, 11, 12, MIN, MAX}) {
            due(name + " of query " + q, adder.add(p, q, 0), Percolator.BAD_QUERY);
        }
        for (int t : new int[] {-1, 24, MIN, MAX}) {
            due(name + " of term " + t, adder.add(p, 1, t), Percolator.BAD_TERM);
        }
        due("matchesQuery(1) after refusals", p.matchesQuery(1), true);
        for (int k = 1; k <= 6; k++) {
            due(name + ", clause " + k, adder.add(p, 1, k % 2 == 0 ? 0 : 23), k);
        }
        due(name + ", clause 7", adder.add(p, 1, 0), Percolator.FULL);
        due(name + " of the other query", adder.add(p, 0, 7), 1);
        p.remove(1);
        due(name + " of a removed query", adder.add(p, 1, 0), Percolator.BAD_QUERY);
    }

    private static void promise3Must() {
        promise = 3;
        termClauseAnswers("must", Percolator::must);
        Percolator p = withQueries(2);
        p.must(0, 23);
        p.must(0, 0);
        words(p, 23);
        due("matchesQuery(0), one of two", p.matchesQuery(0), false);
        words(p, 0, 23);
        due("matchesQuery(0), both", p.matchesQuery(0), true);
        due("matchesQuery(1), untouched", p.matchesQuery(1), true);
        dueRanking(p, 0, 3, 1, 0);
        p.must(0, 23);
        dueRanking(p, 0, 5, 1, 0);

        Percolator full = withQueries(1);
        words(full, 1);
        for (int k = 0; k < 6; k++) {
            full.must(0, 1);
        }
        full.must(0, 2);
        due("matchesQuery(0), the seventh left out", full.matchesQuery(0), true);
        due("score(0), the seventh left out", full.score(0), 6);
    }

    private static void promise4Not() {
        promise = 4;
        termClauseAnswers("not", Percolator::not);
        Percolator p = withQueries(1);
        p.not(0, 0);
        p.not(0, 23);
        due("matchesQuery(0), no words", p.matchesQuery(0), true);
        words(p, 1, 22);
        due("matchesQuery(0), neither", p.matchesQuery(0), true);
        dueRanking(p, 0, 0);
        words(p, 23);
        due("matchesQuery(0), one of two", p.matchesQuery(0), false);
        Percolator both = withQueries(1);
        both.not(0, 3);
        both.must(0, 3);
        due("matchesQuery(0), must and not, without", both.matchesQuery(0), false);
        words(both, 3);
        due("matchesQuery(0), must and not, with", both.matchesQuery(0), false);
    }

    private static void promise5Should() {
        promise = 5;
        termClauseAnswers("should", Percolator::should);
        Percolator p = new Percolator();
        p.create(2);
        p.should(0, 1);
        p.should(0, 2);
        p.should(0, 3);
        words(p, 1, 1, 1);
        due("matchesQuery(0), one met thrice", p.matchesQuery(0), false);
        words(p, 3);
        due("matchesQuery(0), two met", p.matchesQuery(0), true);
        dueRanking(p, 0, 4);
        p.create(0);
        p.should(1, 9);
        dueRanking(p, 0, 4, 1, 0);

        Percolator twice = new Percolator();
        twice.create(2);
        twice.should(0, 4);
        twice.should(0, 4);
        words(twice, 4);
        due("matchesQuery(0), the same should twice", twice.matchesQuery(0), true);
        due("score(0), the same should twice", twice.score(0), 2);

        Percolator others = new Percolator();
        others.create(1);
        others.must(0, 4);
        others.not(0, 5);
        others.range(0, 0, 0);
        others.phrase(0, 4, 4);
        words(others, 4, 4);
        due("matchesQuery(0), other kinds count not", others.matchesQuery(0), false);
        others.should(0, 4);
        due("matchesQuery(0), with a should", others.matchesQuery(0), true);
    }

    private static void promise6Phrase() {
        promise = 6;
        termClauseAnswers("phrase t u", (p, q, t) -> p.phrase(q, t, 5));
        termClauseAnswers("phrase u t", (p, q, t) -> p.phrase(q, 5, t));
        Percolator p = withQueries(1);
        due("phrase(0, -1, 24)", p.phrase(0, -1, 24), Percolator.BAD_TERM);
        due("phrase(0, 1, 2)", p.phrase(0, 1, 2), 1);
        due("matchesQuery(0), no words", p.matchesQuery(0), false);
        phraseOn(p, false, 1);
        phraseOn(p, false, 2);
        phraseOn(p, false, 2, 1);
        phraseOn(p, false, 1, 3, 2);
        phraseOn(p, false, 2, 3, 1);
        phraseOn(p, true, 1, 2);
        phraseOn(p, true, 1, 1, 2);
        phraseOn(p, true, 0, 1, 2, 3);
        phraseOn(p, true, 0, 0, 0, 0, 0, 0, 0, 0, 0, 0, 0, 0, 0, 0, 1, 2);
        phraseOn(p, true, 1, 2, 0, 0, 0, 0, 0, 0, 0, 0, 0, 0, 0, 0, 0, 0);
        phraseOn(p, true, 1, 2, 1, 2, 1, 2);
        due("score(0), 5 however often", p.score(0), 5);
        words(p, 1);
        p.document(0);
        words(p, 1);
        due("matchesQuery(0), the 2 is of the last document", p.matchesQuery(0), false);

        Percolator same = withQueries(1);
        same.phrase(0, 7, 7);
        phraseOn(same, false, 7);
        phraseOn(same, false, 7, 8, 7);
        phraseOn(same, true, 8, 7, 7);
        same.phrase(0, 8, 7);
        same.phrase(0, 7, 7);
        due("score(0), three phrases", same.score(0), 15);
    }

    private static void phraseOn(Percolator p, boolean want, int... terms) {
        p.document(0);
        words(p, terms);
        due("matchesQuery(0) on " + java.util.Arrays.toString(terms), p.matchesQuery(0), want);
    }

    private static void promise7Range() {
        promise = 7;
        Percolator p = withQueries(2);
        for (int q : new int[] {-1, 2, 12, MIN, MAX}) {
            due("range(" + q + ", 0, 0)", p.range(q, 0, 0), Percolator.BAD_QUERY);
        }
        due("range(0, -1, 24)", p.range(0, -1, 24), 1);
        rangeOn(p, -2, false);
        rangeOn(p, -1, true);
        rangeOn(p, 0, true);
        rangeOn(p, 24, true);
        rangeOn(p, 25, false);
        due("range(0, 24, MAX)", p.range(0, 24, MAX), 2);
        rangeOn(p, 23, false);
        rangeOn(p, 24, true);
        due("score(0)", p.score(0), 0);
        for (int k = 1; k <= 6; k++) {
            due("range(1, MIN, MAX)", p.range(1, MIN, MAX), k);
        }
        due("range(1, 1, 0), the seventh", p.range(1, 1, 0), Percolator.FULL);
        due("matchesQuery(1)", p.matchesQuery(1), true);
        p.document(MIN);
        due("matchesQuery(1), MIN", p.matchesQuery(1), true);
        p.document(MAX);
        due("matchesQuery(1), MAX", p.matchesQuery(1), true);

        Percolator never = withQueries(2);
        due("range(0, 5, 4)", never.range(0, 5, 4), 1);
        due("range(1, MAX, MIN)", never.range(1, MAX, MIN), 1);
        for (int number : new int[] {MIN, -1, 0, 4, 5, MAX}) {
            never.document(number);
            due("matches(), number " + number, never.matches(), 0);
        }
        Percolator ends = withQueries(2);
        ends.range(0, MIN, MIN);
        ends.range(1, MAX, MAX);
        ends.document(MIN);
        dueRanking(ends, 0, 0);
        ends.document(MAX);
        dueRanking(ends, 1, 0);
    }

    private static void rangeOn(Percolator p, int number, boolean want) {
        p.document(number);
        due("matchesQuery(0), number " + number, p.matchesQuery(0), want);
    }

    private static void promise8Remove() {
        promise = 8;
        Percolator p = withQueries(12);
        for (int q : new int[] {-1, 12, MIN, MAX}) {
            due("remove(" + q + ")", p.remove(q), Percolator.BAD_QUERY);
        }
        due("matches() after refusals", p.matches(), 12);
        due("remove(5)", p.remove(5), 11);
        due("remove(5) again", p.remove(5), Percolator.BAD_QUERY);
        due("matchesQuery(5)", p.matchesQuery(5), false);
        due("matches()", p.matches(), 11);
        due("match(5)", p.match(5), 6);
        due("remove(11)", p.remove(11), 10);
        due("remove(0)", p.remove(0), 9);
        due("create(0)", p.create(0), 0);
        due("remove(1)", p.remove(1), 9);
        int left = 9;
        for (int q = 0; q < 12; q++) {
            if (q != 1 && q != 5 && q != 11) {
                left--;
                due("remove(" + q + ")", p.remove(q), left);
            }
        }
        due("matches(), none left", p.matches(), 0);

        Percolator kept = withQueries(3);
        kept.must(0, 1);
        kept.must(1, 2);
        kept.must(2, 3);
        words(kept, 1, 3, 3);
        kept.remove(1);
        dueRanking(kept, 2, 2, 0, 1);
        Percolator unmatched = withQueries(2);
        unmatched.must(0, 9);
        due("remove(1), one that does not match is left", unmatched.remove(1), 1);
    }

    private static void promise9Word() {
        promise = 9;
        Percolator p = withQueries(1);
        p.should(0, 0);
        p.should(0, 23);
        for (int t : new int[] {-1, 24, MIN, MAX}) {
            due("word(" + t + ")", p.word(t), Percolator.BAD_TERM);
        }
        for (int k = 1; k <= 16; k++) {
            due("word, number " + k, p.word(k == 16 ? 23 : 0), k);
        }
        due("word(0), the 17th", p.word(0), Percolator.FULL);
        due("word(23), the 17th", p.word(23), Percolator.FULL);
        due("score(0)", p.score(0), 16);
        p.phrase(0, 0, 23);
        due("score(0), with the phrase at the end", p.score(0), 21);
        p.phrase(0, 23, 23);
        due("matchesQuery(0), nothing appended when full", p.matchesQuery(0), false);
        p.document(0);
        due("word(3), after document", p.word(3), 1);
    }

    private static void promise10Document() {
        promise = 10;
        Percolator p = withQueries(3);
        p.must(0, 1);
        p.range(1, 7, 7);
        p.not(2, 1);
        words(p, 1, 1);
        dueRanking(p, 0, 2);
        p.document(7);
        dueRanking(p, 1, 0, 2, 0);
        due("word(1)", p.word(1), 1);
        dueRanking(p, 0, 1, 1, 0);
        p.document(-7);
        dueRanking(p, 2, 0);
        p.document(7);
        p.document(7);
        dueRanking(p, 1, 0, 2, 0);
        due("must(0, 1), the queries stay", p.must(0, 1), 2);
    }

    private static void promise11Matches() {
        promise = 11;
        Percolator p = new Percolator();
        due("matches(), no queries", p.matches(), 0);
        for (int k = 1; k <= 12; k++) {
            p.create(0);
            due("matches(), " + k + " queries", p.matches(), k);
        }
        for (int q = 0; q < 12; q++) {
            p.must(q, q);
        }
        due("matches(), no words", p.matches(), 0);
        words(p, 0, 11, 11, 20);
        due("matches()", p.matches(), 2);
        due("matches() again", p.matches(), 2);
        p.remove(11);
        due("matches() after remove", p.matches(), 1);
    }

    private static void promise12Match() {
        promise = 12;
        Percolator p = withQueries(12);
        for (int i : new int[] {-1, -5, 12, MIN, MAX}) {
            due("match(" + i + ")", p.match(i), Percolator.NONE);
        }
        for (int i = 0; i < 12; i++) {
            due("match(" + i + ") of equal ones", p.match(i), i);
        }
        words(p, 1, 2, 2, 3, 3, 3);
        p.must(4, 1);
        p.must(9, 3);
        p.should(2, 2);
        p.must(7, 3);
        p.must(0, 5);
        p.phrase(11, 1, 2);
        int[] order = {11, 7, 9, 2, 4, 1, 3, 5, 6, 8, 10, Percolator.NONE};
        for (int i = 0; i < 12; i++) {
            due("match(" + i + ")", p.match(i), order[i]);
        }
        due("match(0) again", p.match(0), 11);
        p.document(0);
        due("match(0) on no words", p.match(0), 1);
    }

    private static void promise13Score() {
        promise = 13;
        Percolator p = new Percolator();
        due("score(0), no queries", p.score(0), 0);
        p.create(0);
        p.must(0, 1);
        p.should(0, 2);
        p.should(0, 3);
        p.not(0, 4);
        p.phrase(0, 1, 2);
        p.range(0, 0, 9);
        words(p, 1, 2, 1, 2, 2);
        due("score(0), each kind", p.score(0), 2 + 3 + 0 + 5);
        for (int i : new int[] {-1, 1, 12, MIN, MAX}) {
            due("score(" + i + ")", p.score(i), 0);
        }
        words(p, 4);
        due("score(0), no match", p.score(0), 0);

        Percolator most = withQueries(1);
        for (int k = 0; k < 6; k++) {
            most.must(0, 8);
        }
        for (int k = 0; k < 16; k++) {
            most.word(8);
        }
        due("score(0), the greatest", most.score(0), 96);

        Percolator order = withQueries(3);
        words(order, 1, 2, 2);
        order.must(1, 1);
        order.must(2, 2);
        dueRanking(order, 2, 2, 1, 1, 0, 0);
        order.phrase(1, 1, 2);
        dueRanking(order, 1, 6, 2, 2, 0, 0);
    }

    private static void promise14MatchesQuery() {
        promise = 14;
        Percolator p = withQueries(2);
        for (int q : new int[] {-1, -5, 2, 11, 12, MIN, MAX}) {
            due("matchesQuery(" + q + ")", p.matchesQuery(q), false);
        }
        p.must(1, 6);
        due("matchesQuery(0)", p.matchesQuery(0), true);
        due("matchesQuery(1), without", p.matchesQuery(1), false);
        words(p, 6);
        due("matchesQuery(1), with", p.matchesQuery(1), true);
        due("matchesQuery(1), again", p.matchesQuery(1), true);
        p.remove(1);
        due("matchesQuery(1), removed", p.matchesQuery(1), false);

        Percolator each = new Percolator();
        each.create(1);
        each.must(0, 1);
        each.not(0, 2);
        each.should(0, 3);
        each.phrase(0, 1, 3);
        each.range(0, 5, 6);
        eachOn(each, 5, true, 1, 3);
        eachOn(each, 4, false, 1, 3);
        eachOn(each, 6, false, 3, 1);
        eachOn(each, 6, false, 1, 3, 2);
        eachOn(each, 6, false, 3);
        eachOn(each, 6, false, 1);
        eachOn(each, 6, true, 4, 1, 3);
    }

    private static void eachOn(Percolator p, int number, boolean want, int... terms) {
        p.document(number);
        words(p, terms);
        due("matchesQuery(0) on " + number + " " + java.util.Arrays.toString(terms), p.matchesQuery(0), want);
    }

    private static void promise15Order() {
        promise = 15;
        Percolator p = withQueries(12);
        due("create(-1), full", p.create(-1), Percolator.BAD_LEAST);
        due("create(7), full", p.create(7), Percolator.BAD_LEAST);
        due("create(6), full", p.create(6), Percolator.FULL);
        for (int k = 0; k < 6; k++) {
            p.not(3, 9);
        }
        due("must(12, 24)", p.must(12, 24), Percolator.BAD_QUERY);
        due("not(-1, 24)", p.not(-1, 24), Percolator.BAD_QUERY);
        due("should(12, -1)", p.should(12, -1), Percolator.BAD_QUERY);
        due("phrase(12, 24, -1)", p.phrase(12, 24, -1), Percolator.BAD_QUERY);
        due("must(3, 24), full", p.must(3, 24), Percolator.BAD_TERM);
        due("not(3, -1), full", p.not(3, -1), Percolator.BAD_TERM);
        due("should(3, 24), full", p.should(3, 24), Percolator.BAD_TERM);
        due("phrase(3, 24, 0), full", p.phrase(3, 24, 0), Percolator.BAD_TERM);
        due("phrase(3, 0, 24), full", p.phrase(3, 0, 24), Percolator.BAD_TERM);
        due("must(3, 0), full", p.must(3, 0), Percolator.FULL);
        due("not(3, 0), full", p.not(3, 0), Percolator.FULL);
        due("should(3, 0), full", p.should(3, 0), Percolator.FULL);
        due("phrase(3, 0, 0), full", p.phrase(3, 0, 0), Percolator.FULL);
        due("range(3, 24, -1), full", p.range(3, 24, -1), Percolator.FULL);
        p.remove(3);
        due("must(3, 24), full and removed", p.must(3, 24), Percolator.BAD_QUERY);
        due("range(3, 0, 0), full and removed", p.range(3, 0, 0), Percolator.BAD_QUERY);
        for (int k = 0; k < 16; k++) {
            p.word(0);
        }
        due("word(24), full", p.word(24), Percolator.BAD_TERM);
        due("word(-1), full", p.word(-1), Percolator.BAD_TERM);
        due("word(23), full", p.word(23), Percolator.FULL);
    }

    public static void main(String[] args) {
        promise1NewObject();
        promise2Create();
        promise3Must();
        promise4Not();
        promise5Should();
        promise6Phrase();
        promise7Range();
        promise8Remove();
        promise9Word();
        promise10Document();
        promise11Matches();
        promise12Match();
        promise13Score();
        promise14MatchesQuery();
        promise15Order();
        System.out.println(wrong == 0 ? "all answers are as due" : wrong + " answers are not as due");
        if (wrong != 0) {
            System.exit(1);
        }
    }
}
