import java.util.ArrayList;
import java.util.List;
import java.util.Map;
import java.util.Random;
import java.util.regex.Matcher;
import java.util.regex.Pattern;

/** Random texts, the fault of each compared with that of a plain second reader. */
final class FaultTest {
    private static final Pattern PART = Pattern.compile("[a-z]+|[0-9]+|[^ ]", Pattern.DOTALL);
    private static final String[] PARTS = {";", ";", ";", " ", " ", "-", "slots", "lid", "club", "weeks", "cost", "rise", "fall",
        "k", "b", "m", "f", "a", "g", "0", "1", "2", "3", "7", "10", "99", "100", "599", "600", "0001", "A", "\u00ff", "\t"};
    private static final String[] WORDS = {"lid", "club", "weeks", "cost", "rise", "fall"};
    private static final Map<String, int[]> BOUNDS = Map.of("lid", new int[] {3, 1, 599}, "club", new int[] {1, 1, 6},
        "weeks", new int[] {1, 1, 6}, "cost", new int[] {1, 0, 9}, "rise", new int[] {3, 1, 99}, "fall", new int[] {3, 0, 99});

    private FaultTest() {
    }

    public static void main(String[] args) {
        Random dice = new Random(7);
        int sound = 0;
        for (int k = 0; k < 60000; k++) {
            String text = league(dice);
            for (int turn = dice.nextInt(4); turn > 0; turn--) {
                text = changed(text, dice);
            }
            text = text.length() > 400 ? text.substring(0, 400) : text;
            int want = faultOf(text);
            sound += want == SalaryLid.NONE ? 1 : 0;
            Check.due("fault of '" + text + "'", Check.faultOf(text), want);
        }
        Check.due("texts of both kinds", sound > 5000 && sound < 55000, true);
        Check.finish();
    }

    private static String league(Random dice) {
        StringBuilder t = new StringBuilder("slots");
        for (int p = 0; p < 4; p++) {
            t.append(' ').append(dice.nextInt(dice.nextInt(3) == 0 ? 4 : 2));
        }
        int weeks = 3;
        for (String word : WORDS) {
            if (dice.nextInt(4) == 0) {
                int[] bounds = BOUNDS.get(word);
                int number = bounds[1] + dice.nextInt(bounds[2] - bounds[1] + 1);
                weeks = word.equals("weeks") ? number : weeks;
                t.append(';').append(word).append(dice.nextBoolean() ? " " : "").append(number);
            }
        }
        int players = 1 + dice.nextInt(dice.nextInt(4) == 0 ? 18 : 3);
        for (int i = 0; i < players; i++) {
            t.append(dice.nextInt(9) == 0 ? " ; " : ";").append("kbmf".charAt(dice.nextInt(4))).append(' ');
            t.append("abcdef".charAt(dice.nextInt(6))).append(1 + dice.nextInt(99));
            for (int w = 0; w < weeks; w++) {
                t.append(dice.nextInt(4) == 0 ? "-" : " ").append(dice.nextInt(100));
            }
        }
        return t.toString();
    }

    private static String changed(String text, Random dice) {
        int at = dice.nextInt(text.length() + 1);
        String part = PARTS[dice.nextInt(PARTS.length)];
        switch (dice.nextInt(5)) {
            case 0:
                return text.substring(0, at) + part + text.substring(at);
            case 1:
                return text.substring(0, at) + part + text.substring(Math.min(text.length(), at + 1));
            case 2:
                return text.substring(0, at) + text.substring(Math.min(text.length(), at + 1));
            case 3:
                return text.substring(0, at) + " " + text.substring(at);
            default:
                return dice.nextInt(3) == 0 ? text.substring(0, at) : text;
        }
    }

    /** Goes through the parts with the list of what is still to come of the line. */
    private static int faultOf(String text) {
        Matcher parts = PART.matcher(text);
        List<String> due = new ArrayList<>(List.of("slots", "D", "D", "D", "D"));
        List<String> seen = new ArrayList<>();
        int slots = 0;
        int weeks = 3;
        int players = 0;
        boolean mayEnd = false;
        while (parts.find()) {
            String part = parts.group();
            String want = due.isEmpty() ? ";" : due.remove(0);
            boolean fine;
            if (want.equals("slots") || want.equals(";")) {
                fine = part.equals(want);
                if (want.equals(";")) {
                    due.add("line");
                }
            } else if (want.equals("D")) {
                fine = fits(part, new int[] {1, 0, 3});
                slots += fine ? Integer.parseInt(part) : 0;
                fine &= !due.isEmpty() || slots >= 1 && slots <= 6;
            } else if (want.equals("line") && BOUNDS.containsKey(part)) {
                fine = players == 0 && !seen.contains(part);
                seen.add(part);
                due.add("rule " + part);
            } else if (want.equals("line")) {
                players++;
                fine = part.matches("[kbmf]") && players <= 16;
                due.addAll(List.of("club", "price"));
                for (int w = 0; w < weeks; w++) {
                    due.add("points");
                }
            } else if (want.startsWith("rule ")) {
                fine = fits(part, BOUNDS.get(want.substring(5)));
                weeks = fine && want.equals("rule weeks") ? Integer.parseInt(part) : weeks;
            } else if (want.equals("club")) {
                fine = part.matches("[a-f]");
            } else if (want.equals("points") && part.equals("-")) {
                fine = true;
                due.add(0, "bare points");
            } else {
                fine = fits(part, new int[] {3, want.equals("price") ? 1 : 0, 99});
            }
            if (!fine) {
                return parts.start();
            }
            mayEnd = due.isEmpty() && players > 0;
        }
        return mayEnd ? SalaryLid.NONE : text.length();
    }

    private static boolean fits(String part, int[] bounds) {
        return part.matches("[0-9]+") && part.length() <= bounds[0]
            && Integer.parseInt(part) >= bounds[1] && Integer.parseInt(part) <= bounds[2];
    }
}
