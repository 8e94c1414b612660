import java.lang.reflect.Field;
import java.util.ArrayList;
import java.util.Arrays;
import java.util.List;
import java.util.Random;

/**
 * No run by turns ends with a ring, so that what is had is dealt out by hand here, behind a run's back: only so can it be
 * seen that the least ring is found.
 */
public final class RingsTest {
    private static final int BAD = -1, NOT = -2;
    private static int wrong = 0;
    private static final int[] sizes = new int[8];

    public static void main(String[] args) throws ReflectiveOperationException {
        if (Arrays.stream(TakenInTurns.class.getDeclaredFields()).noneMatch(f -> f.getName().equals("latest"))) {
            // How the state is held is free: a class that holds it otherwise can't be looked into so.
            System.out.println("the latest run is not held as \"latest\": no rings were looked for");
            return;
        }
        for (int seed = 1; seed <= 3000; seed++) {
            check(new Random(seed * 31L), seed);
        }
        for (int n = 1; n <= 5; n++) {
            if (sizes[n] == 0) {
                wrong++;
                System.out.println("no ring of " + n + " was ever looked for");
            }
        }
        System.out.println(wrong == 0 ? "all rings are the least ones" : wrong + " rings are wrong");
        if (wrong != 0) {
            System.exit(1);
        }
    }

    private static Object in(Object some, String name) throws ReflectiveOperationException {
        Field field = some.getClass().getDeclaredField(name);
        field.setAccessible(true);
        return field.get(some);
    }

    private static void check(Random random, int seed) throws ReflectiveOperationException {
        int things = 1 + random.nextInt(6), people = 1 + random.nextInt(6);
        // In each third one all wish just what the next one of one great round has.
        boolean round = seed % 3 == 0;
        List<Integer> turn = new ArrayList<>();
        for (int p = 0; round && p < people; p++) {
            things = people;
            turn.add(p);
        }
        java.util.Collections.shuffle(turn, random);
        StringBuilder text = new StringBuilder();
        for (int t = 0; t < things; t++) {
            text.append((char) ('a' + t)).append(9);
        }
        for (int p = 0; p < people; p++) {
            List<Integer> all = new ArrayList<>();
            for (int t = 0; t < things; t++) {
                all.add(t);
            }
            java.util.Collections.shuffle(all, random);
            text.append(';');
            if (round) {
                int ahead = turn.get((turn.indexOf(p) + people - 1) % people);
                text.append((char) ('a' + ahead)).append(people == 1 ? "" : ">" + (char) ('a' + p));
                continue;
            }
            int n = 1 + random.nextInt(things);
            for (int i = 0; i < n; i++) {
                text.append(i == 0 ? "" : random.nextInt(4) == 0 ? "=" : ">").append((char) ('a' + all.get(i)));
            }
        }
        TakenInTurns x = new TakenInTurns();
        for (char c : text.toString().toCharArray()) {
            x.feed(1, c);
        }
        x.giving();
        x.way(1);
        x.rounds(0, 3);
        int line = 0;
        for (int p = 0; p < people; p++) {
            line = 10 * line + p;
        }
        x.run(0, 0, line);
        Object hand = in(x, "latest");
        int[] got = (int[]) in(hand, "got"), left = (int[]) in(hand, "left");
        int[][] thingOf = (int[][]) in(hand, "thingOf");
        int[][] has = new int[people][things];
        Arrays.fill(left, 0);
        for (int p = 0; p < people; p++) {
            got[p] = random.nextInt(4) == 0 && !round ? 2 : 1;
            for (int i = 0; i < got[p]; i++) {
                int n = x.listed(0, p, -1);
                thingOf[p][i] = round ? p : x.listed(0, p, Math.max(random.nextInt(n), random.nextInt(n)));
                has[p][thingOf[p][i]]++;
            }
        }
        if (random.nextInt(6) == 0) {
            left[random.nextInt(things)] = 1;
        }
        List<int[]> due = least(x, people, things, has, left);
        sizes[due.size()]++;
        due("seed " + seed + " " + text, x.ring(-1), due.isEmpty() ? NOT : due.size());
        for (int i = 0; i <= due.size(); i++) {
            due("seed " + seed + " " + text + " " + i, x.ring(i), i < due.size() ? 10 * due.get(i)[0] + due.get(i)[1] : BAD);
        }
    }

    private static void due(String what, int got, int want) {
        if (got != want) {
            wrong++;
            System.out.println(what + ": answered " + got + ", due is " + want);
        }
    }

    private static boolean better(TakenInTurns x, int who, int thing, int than) {
        int level = x.level(0, who, thing);
        return level >= 0 && level < x.level(0, who, than);
    }

    private static List<int[]> least(TakenInTurns x, int people, int things, int[][] has, int[] left) {
        for (int p = 0; p < people; p++) {
            for (int t = 0; t < things; t++) {
                for (int other = 0; other < things; other++) {
                    if (has[p][t] > 0 && left[other] > 0 && better(x, p, other, t)) {
                        return List.of(new int[] {p, t});
                    }
                }
            }
        }
        for (int n = 2; n <= people; n++) {
            List<List<Integer>> lines = new ArrayList<>();
            lines(people, n, new ArrayList<>(), lines);
            for (List<Integer> line : lines) {
                int all = 1;
                for (int i = 0; i < n; i++) {
                    all *= things;
                }
                for (int code = 0; code < all; code++) {
                    List<int[]> ring = ring(x, line, code, things, has);
                    if (ring != null) {
                        return ring;
                    }
                }
            }
        }
        return List.of();
    }

    private static void lines(int people, int n, List<Integer> begun, List<List<Integer>> all) {
        if (begun.size() == n) {
            all.add(new ArrayList<>(begun));
            return;
        }
        for (int p = 0; p < people; p++) {
            if (!begun.contains(p) && (begun.isEmpty() || p > begun.get(0))) {
                begun.add(p);
                lines(people, n, begun, all);
                begun.remove(begun.size() - 1);
            }
        }
    }

    private static List<int[]> ring(TakenInTurns x, List<Integer> line, int code, int things, int[][] has) {
        int n = line.size();
        int[] given = new int[n];
        int rest = code;
        for (int i = n - 1; i >= 0; i--) {
            given[i] = rest % things;
            rest /= things;
            if (has[line.get(i)][given[i]] == 0) {
                return null;
            }
        }
        List<int[]> ring = new ArrayList<>();
        for (int i = 0; i < n; i++) {
            if (!better(x, line.get(i), given[(i + n - 1) % n], given[i])) {
                return null;
            }
            ring.add(new int[] {line.get(i), given[i]});
        }
        return ring;
    }
}
