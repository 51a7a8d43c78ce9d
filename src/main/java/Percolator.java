/** Stores queries and finds those that an incoming document matches. */
public final class Percolator {
    public static final int BAD_QUERY = -1;
    public static final int BAD_TERM = -2;
    public static final int FULL = -3;
    public static final int BAD_LEAST = -4;
    public static final int NONE = -5;

    private static final int TERMS = 24;
    private static final int MAX_QUERIES = 12;
    private static final int MAX_CLAUSES = 6;
    private static final int MAX_WORDS = 16;
    private static final int CLAUSE_SLOTS = 72; // MAX_QUERIES * MAX_CLAUSES
    private static final int PHRASE_SCORE = 5;

    private static final int MUST = 0;
    private static final int NOT = 1;
    private static final int SHOULD = 2;
    private static final int PHRASE = 3;
    private static final int RANGE = 4;

    private final boolean[] stored = new boolean[MAX_QUERIES];
    private final int[] leastOf = new int[MAX_QUERIES];
    private final int[] clausesOf = new int[MAX_QUERIES];
    private int queryCount;

    // Query q owns the slots from q * MAX_CLAUSES on; only its first
    // clausesOf[q] slots hold clauses, so what stands behind them is never read.
    private final int[] kinds = new int[CLAUSE_SLOTS];
    private final int[] firsts = new int[CLAUSE_SLOTS];
    private final int[] seconds = new int[CLAUSE_SLOTS];

    private final int[] words = new int[MAX_WORDS];
    private int wordCount;
    private int documentNumber;

    public Percolator() {
        queryCount = 0;
        wordCount = 0;
        documentNumber = 0;
    }

    public int create(int least) {
        if (least < 0 || least > MAX_CLAUSES) {
            return BAD_LEAST;
        }
        for (int query = 0; query < MAX_QUERIES; query++) {
            if (!stored[query]) {
                stored[query] = true;
                leastOf[query] = least;
                clausesOf[query] = 0;
                queryCount++;
                return query;
            }
        }
        return FULL;
    }

    public int must(int query, int t) {
        return addTermClause(query, MUST, t, t);
    }

    public int not(int query, int t) {
        return addTermClause(query, NOT, t, t);
    }

    public int should(int query, int t) {
        return addTermClause(query, SHOULD, t, t);
    }

    public int phrase(int query, int t, int u) {
        return addTermClause(query, PHRASE, t, u);
    }

    public int range(int query, int lo, int hi) {
        return addClause(query, RANGE, lo, hi);
    }

    public int remove(int query) {
        if (!isStored(query)) {
            return BAD_QUERY;
        }
        stored[query] = false;
        queryCount--;
        return queryCount;
    }

    public int word(int t) {
        if (!isTerm(t)) {
            return BAD_TERM;
        }
        if (wordCount >= MAX_WORDS) {
            return FULL;
        }
        words[wordCount] = t;
        wordCount++;
        return wordCount;
    }

    public void document(int number) {
        wordCount = 0;
        documentNumber = number;
    }

    public int matches() {
        int count = 0;
        for (int query = 0; query < MAX_QUERIES; query++) {
            if (isMatch(query)) {
                count++;
            }
        }
        return count;
    }

    public int match(int i) {
        return queryAtRank(i);
    }

    public int score(int i) {
        int query = queryAtRank(i);
        return query == NONE ? 0 : scoreOf(query);
    }

    public boolean matchesQuery(int query) {
        return isMatch(query);
    }

    private static boolean isTerm(int t) {
        return t >= 0 && t < TERMS;
    }

    private boolean isStored(int query) {
        return query >= 0 && query < MAX_QUERIES && stored[query];
    }

    // The query is looked at here and again in addClause, because a bad query
    // has to be told before a bad term, and a bad term before a full query.
    private int addTermClause(int query, int kind, int t, int u) {
        if (!isStored(query)) {
            return BAD_QUERY;
        }
        if (!isTerm(t) || !isTerm(u)) {
            return BAD_TERM;
        }
        return addClause(query, kind, t, u);
    }

    private int addClause(int query, int kind, int first, int second) {
        if (!isStored(query)) {
            return BAD_QUERY;
        }
        if (clausesOf[query] >= MAX_CLAUSES) {
            return FULL;
        }
        int slot = query * MAX_CLAUSES + clausesOf[query];
        kinds[slot] = kind;
        firsts[slot] = first;
        seconds[slot] = second;
        clausesOf[query]++;
        return clausesOf[query];
    }

    private boolean isMatch(int query) {
        if (!isStored(query)) {
            return false;
        }
        int from = query * MAX_CLAUSES;
        int shouldsMet = 0;
        for (int k = 0; k < clausesOf[query]; k++) {
            boolean holds = clauseHolds(from + k);
            if (kinds[from + k] == SHOULD) {
                shouldsMet += holds ? 1 : 0;
            } else if (!holds) {
                return false;
            }
        }
        return shouldsMet >= leastOf[query];
    }

    private boolean clauseHolds(int slot) {
        switch (kinds[slot]) {
            case NOT:
                return timesInDocument(firsts[slot]) == 0;
            case PHRASE:
                return hasPhrase(firsts[slot], seconds[slot]);
            case RANGE:
                return firsts[slot] <= documentNumber && documentNumber <= seconds[slot];
            default:
                return timesInDocument(firsts[slot]) > 0;
        }
    }

    private int timesInDocument(int t) {
        int times = 0;
        for (int k = 0; k < wordCount; k++) {
            if (words[k] == t) {
                times++;
            }
        }
        return times;
    }

    private boolean hasPhrase(int t, int u) {
        for (int k = 1; k < wordCount; k++) {
            if (words[k - 1] == t && words[k] == u) {
                return true;
            }
        }
        return false;
    }

    // Only asked of a query that matches, so each of its phrases does hold.
    private int scoreOf(int query) {
        int from = query * MAX_CLAUSES;
        int sum = 0;
        for (int k = 0; k < clausesOf[query]; k++) {
            int kind = kinds[from + k];
            if (kind == MUST || kind == SHOULD) {
                sum += timesInDocument(firsts[from + k]);
            } else if (kind == PHRASE) {
                sum += PHRASE_SCORE;
            }
        }
        return sum;
    }

    // Each match has a rank of its own, so no sorted list has to be kept up
    // to date while queries and the document change.
    private int queryAtRank(int rank) {
        for (int query = 0; query < MAX_QUERIES; query++) {
            if (isMatch(query) && matchesAhead(query) == rank) {
                return query;
            }
        }
        return NONE;
    }

    private int matchesAhead(int query) {
        int own = scoreOf(query);
        int ahead = 0;
        for (int other = 0; other < MAX_QUERIES; other++) {
            if (isMatch(other)) {
                int theirs = scoreOf(other);
                if (theirs > own || (theirs == own && other < query)) {
                    ahead++;
                }
            }
        }
        return ahead;
    }
}
