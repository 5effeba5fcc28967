import java.util.ArrayList;
import java.util.List;
import java.util.Random;
import java.util.regex.Matcher;
import java.util.regex.Pattern;

/** Random texts of keepers, their faults against a reading by patterns. */
public final class TextTest {
    private static final String[] PIECES = {"keeper", "silent", ";", " ", "\n", "a", "b", "c", "keeper a;", "keeper b;",
        "keeper c silent;", " keeper d ;", "keeper abcdefgh;", "abcdefghi", "keeper e;", "keeper f;", "keeper g;",
        "keeper h;", "keeper i;", "!", "\t", "K", "" + (char) 0, "" + (char) 255, "keeperx", "keeper silent"};
    private static final Pattern TOKEN = Pattern.compile("[a-z]{1,8}(?![a-z])|;");

    private int fault;
    private int place;
    private int count;

    public static void main(String[] args) {
        Check check = new Check("TextTest");
        Random random = new Random(5);
        int[] faults = new int[5];
        for (int run = 0; run < 100000; run++) {
            StringBuilder text = new StringBuilder();
            int tidy = random.nextInt(3);
            for (int i = random.nextInt(16); i > 0; i--) {
                text.append(tidy > 0 && random.nextInt(12) > 0 ? PIECES[8 + random.nextInt(4)].replace('a', letter(random))
                        .replace('b', letter(random)) : PIECES[random.nextInt(PIECES.length)]);
            }
            String told = text.length() > 400 ? text.substring(0, 400) : text.toString();
            TextTest due = new TextTest();
            due.look(told);
            faults[due.fault]++;
            Counted x = new Counted();
            Check.lay(x, told);
            check.due("keepers of '" + told + "'", x.keepers(), due.fault == 0 ? due.count : -1);
            check.due("fault of '" + told + "'", x.fault(0), due.fault);
            check.due("place of '" + told + "'", x.fault(1), due.fault == 0 ? -1 : due.place);
            check.due("tape behind '" + told + "'", x.about(6), 0);
        }
        for (int fault = 0; fault < 5; fault++) {
            check.due("texts of fault " + fault + " are too few", faults[fault] > 250, true);
        }
        check.finish();
    }

    private static char letter(Random random) {
        return (char) ('a' + random.nextInt(26));
    }

    private void blame(int newFault, int newPlace) {
        if (fault == 0) {
            fault = newFault;
            place = newPlace;
        }
    }

    private void look(String text) {
        List<String> tokens = new ArrayList<>();
        List<Integer> places = new ArrayList<>();
        int at = 0;
        Matcher matcher = TOKEN.matcher(text);
        while (at < text.length()) {
            if (text.charAt(at) == ' ' || text.charAt(at) == '\n') {
                at++;
                continue;
            }
            matcher.region(at, text.length());
            tokens.add(matcher.lookingAt() ? matcher.group() : "no token");
            places.add(at);
            at = matcher.lookingAt() ? matcher.end() : text.length();
        }
        tokens.add("end");
        places.add(text.length());
        grammar(tokens, places);
    }

    private void grammar(List<String> tokens, List<Integer> places) {
        List<String> names = new ArrayList<>();
        int voters = 0;
        int i = 0;
        while (!tokens.get(i).equals("end")) {
            if (!tokens.get(i).equals("keeper") || names.size() == 7) {
                wrong(tokens, places, i);
                return;
            }
            String name = tokens.get(++i);
            if (!name.matches("[a-z]{1,8}") || name.equals("end") && i == tokens.size() - 1 || name.equals("keeper")
                    || name.equals("silent")) {
                wrong(tokens, places, i);
                return;
            }
            if (names.contains(name)) {
                blame(3, places.get(i));
                return;
            }
            names.add(name);
            i++;
            if (tokens.get(i).equals("silent")) {
                i++;
            } else {
                voters++;
            }
            if (!tokens.get(i).equals(";")) {
                wrong(tokens, places, i);
                return;
            }
            i++;
        }
        count = names.size();
        if (voters == 0) {
            blame(4, places.get(i));
        }
    }

    private void wrong(List<String> tokens, List<Integer> places, int i) {
        blame(tokens.get(i).equals("no token") ? 1 : 2, places.get(i));
    }
}
