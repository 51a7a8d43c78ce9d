import java.util.ArrayList;
import java.util.Collections;
import java.util.Comparator;
import java.util.List;
import java.util.TreeMap;

/**
 * Long mixed runs, the same each time, against a model that is written from the
 * document with lists and maps, so that it shares no way of working with the class.
 */
public final class ModelTest {
    private static final int RUNS = 3000;
    private static final int CALLS = 512; // what an object is used for at most

    private static final class Query {
        int least;
        final List<int[]> clauses = new ArrayList<>();
    }

    private static final class Model {
        final TreeMap<Integer, Query> queries = new TreeMap<>();
        final List<Integer> words = new ArrayList<>();
        int number = 0;

        int create(int least) {
            if (least < 0 || least > 6) {
                return -4;
            }
            if (queries.size() == 12) {
                return -3;
            }
            int free = 0;
            while (queries.containsKey(free)) {
                free++;
            }
            Query q = new Query();
            q.least = least;
            queries.put(free, q);
            return free;
        }

        int add(int query, char kind, int a, int b) {
            if (!queries.containsKey(query)) {
                return -1;
            }
            if (kind != 'R' && (a < 0 || a > 23)) {
                return -2;
            }
            if (kind == 'P' && (b < 0 || b > 23)) {
                return -2;
            }
            List<int[]> clauses = queries.get(query).clauses;
            if (clauses.size() == 6) {
                return -3;
            }
            clauses.add(new int[] {kind, a, b});
            return clauses.size();
        }

        int remove(int query) {
            return queries.remove(query) == null ? -1 : queries.size();
        }

        int word(int t) {
            if (t < 0 || t > 23) {
                return -2;
            }
            if (words.size() == 16) {
                return -3;
            }
            words.add(t);
            return words.size();
        }

        void document(int n) {
            words.clear();
            number = n;
        }

        boolean holds(int[] c) {
            switch (c[0]) {
                case 'M':
                case 'S':
                    return words.contains(c[1]);
                case 'N':
                    return !words.contains(c[1]);
                case 'P':
                    return Collections.indexOfSubList(words, List.of(c[1], c[2])) >= 0;
                default:
                    return (long) c[1] <= number && number <= (long) c[2];
            }
        }

        boolean matchesQuery(int query) {
            Query q = queries.get(query);
            return q != null
                && q.clauses.stream().filter(c -> c[0] != 'S').allMatch(this::holds)
                && q.clauses.stream().filter(c -> c[0] == 'S').filter(this::holds).count() >= q.least;
        }

        int scoreOf(int query) {
            int sum = 0;
            for (int[] c : queries.get(query).clauses) {
                if (c[0] == 'M' || c[0] == 'S') {
                    sum += Collections.frequency(words, c[1]);
                }
                if (c[0] == 'P') {
                    sum += 5;
                }
            }
            return sum;
        }

        List<Integer> ranking() {
            List<Integer> found = new ArrayList<>();
            for (int query : queries.keySet()) {
                if (matchesQuery(query)) {
                    found.add(query);
                }
            }
            found.sort(Comparator.comparingInt((Integer q) -> -scoreOf(q)).thenComparingInt(q -> q));
            return found;
        }

        int match(int i) {
            List<Integer> found = ranking();
            return i < 0 || i >= found.size() ? -5 : found.get(i);
        }

        int score(int i) {
            List<Integer> found = ranking();
            return i < 0 || i >= found.size() ? 0 : scoreOf(found.get(i));
        }
    }

    private static int wrong = 0;
    private static long seed = 1;

    /** A number from 0 to bound - 1 out of a fixed sequence. */
    private static int pick(int bound) {
        seed = seed * 6364136223846793005L + 1442695040888963407L;
        return (int) ((seed >>> 33) % bound);
    }

    private static int oddInt() {
        int[] odd = {Integer.MIN_VALUE, Integer.MIN_VALUE + 1, -5, -1, 6, 7, 11, 12, 16, 23, 24, 25,
            Integer.MAX_VALUE - 1, Integer.MAX_VALUE};
        return odd[pick(odd.length)];
    }

    private static int nearly(int bound) {
        return pick(25) == 0 ? oddInt() : pick(bound);
    }

    private static void due(int run, String call, int got, int want) {
        if (got != want) {
            wrong++;
            if (wrong <= 20) {
                System.out.println("run " + run + ": " + call + " answered " + got + ", due is " + want);
            }
        }
    }

    private static void change(int run, Percolator p, Model m, int terms, int kind) {
        int q = nearly(12);
        int t = nearly(terms);
        int u = nearly(terms);
        if (kind < 5) {
            int least = pick(3) == 0 ? nearly(7) : 0;
            due(run, "create(" + least + ")", p.create(least), m.create(least));
        } else if (kind < 7) {
            due(run, "must(" + q + ", " + t + ")", p.must(q, t), m.add(q, 'M', t, 0));
        } else if (kind < 9) {
            due(run, "not(" + q + ", " + t + ")", p.not(q, t), m.add(q, 'N', t, 0));
        } else if (kind < 12) {
            due(run, "should(" + q + ", " + t + ")", p.should(q, t), m.add(q, 'S', t, 0));
        } else if (kind < 14) {
            due(run, "phrase(" + q + ", " + t + ", " + u + ")", p.phrase(q, t, u), m.add(q, 'P', t, u));
        } else if (kind < 15) {
            int lo = nearly(10) - 3;
            int hi = nearly(10) + 3;
            due(run, "range(" + q + ", " + lo + ", " + hi + ")", p.range(q, lo, hi), m.add(q, 'R', lo, hi));
        } else if (kind < 17) {
            due(run, "remove(" + q + ")", p.remove(q), m.remove(q));
        } else if (kind < 29) {
            due(run, "word(" + t + ")", p.word(t), m.word(t));
        } else {
            int number = nearly(10);
            p.document(number);
            m.document(number);
        }
    }

    private static void ask(int run, Percolator p, Model m, int kind) {
        int i = kind == 0 ? pick(13) : nearly(5);
        int q = nearly(12);
        if (kind < 2) {
            due(run, "match(" + i + ")", p.match(i), m.match(i));
        } else if (kind < 4) {
            due(run, "score(" + i + ")", p.score(i), m.score(i));
        } else if (kind < 5) {
            due(run, "matches()", p.matches(), m.ranking().size());
        } else {
            due(run, "matchesQuery(" + q + ")", p.matchesQuery(q) ? 1 : 0, m.matchesQuery(q) ? 1 : 0);
        }
    }

    public static void main(String[] args) {
        for (int run = 1; run <= RUNS; run++) {
            Percolator p = new Percolator();
            Model m = new Model();
            int terms = run % 3 == 0 ? 24 : 2 + pick(5);
            for (int call = 0; call < CALLS; call++) {
                if (pick(2) == 0) {
                    change(run, p, m, terms, pick(30));
                } else {
                    ask(run, p, m, pick(6));
                }
            }
        }
        System.out.println(wrong == 0 ? "all answers are as the model's" : wrong + " answers are not as the model's");
        if (wrong != 0) {
            System.exit(1);
        }
    }
}
