import java.util.List;
import java.util.Map;
import java.util.Set;
import java.util.TreeMap;
import java.util.TreeSet;

/** Runs of made-up calls, each on a new object: the class and the model answer alike. */
public final class ModelTest {
    private static final int PROMISED = 512;

    private final KindRounds rounds = new KindRounds();
    private final Model model = new Model();
    private final StringBuilder calls = new StringBuilder();
    private final Dice dice;
    private final Sayings sayings;
    private final Crowds crowds;
    private int left = PROMISED;
    private boolean agrees = true;

    private static final Map<String, Integer> answers = new TreeMap<>();

    private ModelTest(long seed) {
        dice = new Dice(seed);
        sayings = new Sayings(dice);
        crowds = new Crowds(dice);
    }

    /** The arguments are the first seed and how many runs there are. */
    public static void main(String[] args) {
        long first = args.length > 1 ? Long.parseLong(args[0]) : 1;
        int runs = args.length > 1 ? Integer.parseInt(args[1]) : 1500;
        int wrong = 0;
        for (long seed = first; seed < first + runs; seed++) {
            ModelTest run = new ModelTest(seed);
            run.run();
            if (!run.agrees || run.left < 0) {
                wrong++;
                System.out.println("run " + seed + ":\n" + run.calls);
            }
        }
        System.out.println(runs - wrong + " of " + runs + " runs are as due, with the answers " + answers);
        if (wrong > 0 || args.length == 0 && !hasAllSorts()) {
            System.exit(1);
        }
    }

    /** Runs in which a sort of answer never comes prove nothing about it. */
    private static boolean hasAllSorts() {
        Set<String> due = new TreeSet<>(List.of("plain -4", "same -4", "same 0", "same 1", "read -14"));
        for (String call : List.of("read", "kind", "plain", "same")) {
            for (int fault : new int[] {1, 2, 3, 5, 6}) {
                due.add(call + " " + (-10 - fault));
            }
            if (!call.equals("same")) {
                due.add(call + " good");
            }
        }
        due.removeAll(answers.keySet());
        if (!due.isEmpty()) {
            System.out.println("no run had the answers " + due);
        }
        return due.isEmpty();
    }

    private void run() {
        while (left > 150 && agrees) {
            int thrown = dice.below(10);
            if (thrown == 0) {
                runCrowded();
            } else if (thrown == 1) {
                runGrowing();
            } else {
                runOrdinary();
            }
            askStrange();
        }
    }

    private void runOrdinary() {
        readText(sayings.text(dice.in100(90) ? dice.below(7) : dice.below(12)));
        askDeclared();
        for (int i = dice.below(6); i > 0 && left > 100; i--) {
            String type = sayings.asked();
            String second = dice.in100(50) ? sayings.asked() : type;
            askType(type, type + (dice.in100(97) ? "," : "") + second);
        }
    }

    private void runCrowded() {
        readText(crowds.text());
        askDeclared();
        if (left > 150) {
            askType(crowds.asked(), crowds.askedTwo());
        }
    }

    private void runGrowing() {
        readText(crowds.growing());
        for (int i = dice.below(6); i > 0 && left > 100; i--) {
            String type = crowds.askedGrown();
            askType(type, type + "," + crowds.askedGrown());
        }
    }

    private int is(String call, int got, int due) {
        left--;
        if (got != due && agrees) {
            agrees = false;
            calls.append(call).append(" answered ").append(got).append(", due is ").append(due).append("\n");
        }
        return due;
    }

    private void put(String text) {
        calls.append(text).append("\n");
        int[] five = new int[5];
        for (int start = 0; start < text.length(); start += 20) {
            for (int i = 0; i < 20; i++) {
                int b = start + i < text.length() ? text.charAt(start + i) & 255 : ' ';
                five[i / 4] = five[i / 4] << 8 | b;
            }
            is("feed", rounds.feed(five[0], five[1], five[2], five[3], five[4]),
                model.feed(five[0], five[1], five[2], five[3], five[4]));
        }
        is("cut", rounds.cut(text.length()), model.cut(text.length()));
    }

    private void readText(String text) {
        put(text);
        note("read", is("read", rounds.read(), model.read()));
        askFault();
    }

    private void askType(String type, String two) {
        switch (dice.below(3)) {
            case 0:
                put(type);
                askShown(note("kind", is("kind", rounds.kind(), model.kind())));
                break;
            case 1:
                put(type);
                askShown(note("plain", is("plain", rounds.plain(), model.plain())));
                break;
            default:
                put(two);
                note("same", is("same", rounds.same(), model.same()));
                break;
        }
        askFault();
    }

    private static int note(String call, int answer) {
        String sort = answer < 0 ? Integer.toString(answer) : call.equals("same") ? "" + answer : "good";
        answers.merge(call + " " + sort, 1, Integer::sum);
        return answer;
    }

    private void askFault() {
        is("place", rounds.place(), model.place());
        for (int side = 0; side < 2; side++) {
            askShown(is("side", rounds.side(side), model.side(side)));
        }
    }

    private void askShown(int size) {
        for (int i = 0; i <= size && left > 60; i++) {
            is("out " + i, rounds.out(i), model.out(i));
        }
    }

    private void askDeclared() {
        int groups = is("groups", rounds.groups(), model.groups());
        int count = 0;
        while (model.told(count, 0) >= 0) {
            count++;
        }
        for (int n = dice.below(12); n > 0 && left > 90; n--) {
            int i = dice.below(count + 2) - 1;
            int j = dice.below(5) - 1;
            int what = dice.below(7);
            int other = dice.below(count + 2) - 1;
            int group = dice.below(groups + 2) - 1;
            is("told " + i + " " + what, rounds.told(i, what), model.told(i, what));
            is("needs " + i + " " + other, rounds.needs(i, other), model.needs(i, other));
            is("member " + group + " " + j, rounds.member(group, j), model.member(group, j));
            askShown(is("kindOf " + i + " " + j, rounds.kindOf(i, j), model.kindOf(i, j)));
        }
    }

    private void askStrange() {
        int[] strange = {Integer.MIN_VALUE, -2, -1, 2, 3, 16, 17, 1200, Integer.MAX_VALUE};
        int i = strange[dice.below(strange.length)];
        int j = strange[dice.below(strange.length)];
        is("out " + i, rounds.out(i), model.out(i));
        is("cut " + i, rounds.cut(i), model.cut(i));
        is("side " + i, rounds.side(i), model.side(i));
        is("told " + i + " " + j, rounds.told(i, j), model.told(i, j));
        is("kindOf " + i + " " + j, rounds.kindOf(i, j), model.kindOf(i, j));
        is("member " + i + " " + j, rounds.member(i, j), model.member(i, j));
        is("needs " + i + " " + j, rounds.needs(i, j), model.needs(i, j));
    }
}
