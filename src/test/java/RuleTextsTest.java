import java.util.ArrayList;
import java.util.List;
import java.util.Random;

/**
 * Promises 6, 8 and 44 by their definitions: every short text, and drawn longer
 * ones, told as a rule and as a law. A text is right if brackets can be taken
 * out of it from within; a sign can't stand where no end makes a right text.
 */
public final class RuleTextsTest {
    private static final Check CHECK = new Check("RuleTextsTest");
    private static final String SUM = "-*(?:[banxgde]|[0-9]{1,3})(?:[-+*/]-*(?:[banxgde]|[0-9]{1,3}))*";
    private static final String FLAT = SUM + "(?:[<>=]" + SUM + ")?";
    private static final String[] ENDS = {"", "b", ")", "b)", "))", "b))", ")))", "b)))", "))))", "b))))"};
    private static final String PEOPLE = "74bc;25ac;99a";
    private static final String LETTERS = "banxgde";
    /** A text takes some 50 calls at most, and an object no more than 512. */
    private static final int TEXTS_OF_AN_OBJECT = 8;

    private static final int[][] LETTER_VALUES = new int[3][LETTERS.length()];
    private static RopeRemembers x;
    private static int texts;

    public static void main(String[] args) {
        everyShortText("", "b1-*<()", 5);
        everyShortText("((((", "b1-=()", 4);
        everyShortText("b-12", "07x(+", 4);
        everyShortText("b<(a>1)", "-/=)e", 3);
        drawnTexts();
        CHECK.finish();
    }

    private static void everyShortText(String ahead, String signs, int most) {
        ask(ahead);
        for (int i = 0; i < signs.length() && most > 0; i++) {
            everyShortText(ahead + signs.charAt(i), signs, most - 1);
        }
    }

    private static void drawnTexts() {
        Random random = new Random(6);
        for (int i = 0; i < 20000; i++) {
            StringBuilder text = new StringBuilder(expression(random, 5));
            if (random.nextInt(3) == 0) {
                String signs = "banxgde0129()-+*/<>=cf \u00e9";
                text.insert(random.nextInt(text.length() + 1), signs.charAt(random.nextInt(signs.length())));
            }
            ask(text.length() > 80 ? text.substring(0, 80) : text.toString());
        }
    }

    private static String expression(Random random, int depth) {
        switch (random.nextInt(depth > 0 ? 9 : 2)) {
            case 0:
                return String.valueOf(random.nextInt(random.nextBoolean() ? 1000 : 10));
            case 1:
                return String.valueOf(LETTERS.charAt(random.nextInt(7)));
            case 2:
                return "-" + expression(random, depth - 1);
            case 3:
            case 4:
                return "(" + expression(random, depth - 1) + ")";
            default:
                return expression(random, depth - 1) + "+-*/+-*/+-*/<>=".charAt(random.nextInt(15))
                    + expression(random, depth - 1);
        }
    }

    private static void ask(String text) {
        if (texts % TEXTS_OF_AN_OBJECT == 0) {
            x = Check.made("3", PEOPLE);
            x.crossing(texts / TEXTS_OF_AN_OBJECT % 9);
            x.show(texts / TEXTS_OF_AN_OBJECT % 3);
            lookAtAll();
        }
        texts++;
        int wrong = wrongAt(text);
        if (wrong >= 0) {
            CHECK.due("6 rule() of " + text, Check.rule(x, text), -1 - wrong);
            CHECK.due("44 law() of " + text, Check.law(x, text), -10000 - wrong);
            return;
        }
        CHECK.due("6 rule() of " + text, Check.rule(x, text), 0);
        for (int person = 0; person < 3 && !text.isEmpty(); person++) {
            int due = Math.max(0, Math.min(9, value(text, person)));
            CHECK.due("8 BELIEF behind the next by " + text, x.person(person, 4), due);
        }
        CHECK.due("44 law() of the rule itself " + text, Check.law(x, text), 0);
    }

    /** Where a text is wrong first, or -1. */
    private static int wrongAt(String text) {
        for (int p = 0; p < text.length(); p++) {
            if (p == 40 || !couldGoOn(text.substring(0, p + 1))) {
                return p;
            }
        }
        return text.isEmpty() || isRight(text) ? -1 : text.length();
    }

    private static boolean couldGoOn(String text) {
        for (String end : ENDS) {
            if (isRight(text + end)) {
                return true;
            }
        }
        return false;
    }

    private static boolean isRight(String text) {
        String left = text;
        int within = 0;
        for (int i = 0; i < text.length(); i++) {
            within += text.charAt(i) == '(' ? 1 : text.charAt(i) == ')' ? -1 : 0;
            if (within > 4) {
                return false;
            }
        }
        while (left.indexOf(')') >= 0) {
            int to = left.indexOf(')');
            int from = left.lastIndexOf('(', to);
            if (from < 0 || !left.substring(from + 1, to).matches(FLAT)) {
                return false;
            }
            left = left.substring(0, from) + "b" + left.substring(to + 1);
        }
        return left.matches(FLAT);
    }

    /** A right text's value for one: the innermost brackets first, in each the strongest sign first. */
    private static int value(String text, int person) {
        List<Object> parts = parts(text, person);
        while (parts.contains(')')) {
            int to = parts.indexOf(')');
            int from = parts.subList(0, to).lastIndexOf('(');
            int value = flat(new ArrayList<>(parts.subList(from + 1, to)));
            parts.subList(from, to + 1).clear();
            parts.add(from, value);
        }
        return flat(parts);
    }

    private static List<Object> parts(String text, int person) {
        List<Object> parts = new ArrayList<>();
        for (int p = 0; p < text.length(); p++) {
            char sign = text.charAt(p);
            int digits = 0;
            while (p + digits < text.length() && Character.isDigit(text.charAt(p + digits))) {
                digits++;
            }
            if (digits > 0) {
                parts.add(Integer.parseInt(text.substring(p, p + digits)));
                p += digits - 1;
            } else if (Character.isLetter(sign)) {
                parts.add(LETTER_VALUES[person][LETTERS.indexOf(sign)]);
            } else {
                parts.add(sign);
            }
        }
        return parts;
    }

    private static int flat(List<Object> parts) {
        for (int i = parts.size() - 2; i >= 0; i--) {
            boolean ahead = i == 0 || parts.get(i - 1) instanceof Character;
            if (ahead && parts.get(i).equals('-') && parts.get(i + 1) instanceof Integer) {
                parts.set(i, -(Integer) parts.remove(i + 1));
            }
        }
        for (String signs : new String[] {"*/", "+-", "<>="}) {
            for (int i = 1; i < parts.size();) {
                if (signs.indexOf((Character) parts.get(i)) < 0) {
                    i += 2;
                    continue;
                }
                int second = (Integer) parts.remove(i + 1);
                char sign = (Character) parts.remove(i);
                parts.set(i - 1, joined((Integer) parts.get(i - 1), sign, second));
            }
        }
        return (Integer) parts.get(0);
    }

    private static int joined(int first, char sign, int second) {
        switch (sign) {
            case '*':
                return (int) ((long) first * second);
            case '/':
                return second == 0 ? 0 : (int) ((long) first / second);
            case '+':
                return (int) ((long) first + second);
            case '-':
                return (int) ((long) first - second);
            case '<':
                return Integer.compare(first, second) < 0 ? 1 : 0;
            case '>':
                return Integer.compare(first, second) > 0 ? 1 : 0;
            default:
                return Integer.compare(first, second) == 0 ? 1 : 0;
        }
    }

    private static void lookAtAll() {
        for (int person = 0; person < 3; person++) {
            int sees = x.person(person, 2);
            int many = Integer.bitCount(sees);
            int own = x.person(person, 0);
            int sum = 0;
            for (int i = 0; i < 3; i++) {
                sum += (sees >> i & 1) == 1 ? x.person(i, 0) : 0;
            }
            int[] values = {own, many == 0 ? own : sum / many, many, Integer.bitCount(sees & x.count(13)),
                x.count(5) >> person & 1, x.count(6) % 7, x.person(person, 1)};
            System.arraycopy(values, 0, LETTER_VALUES[person], 0, values.length);
        }
    }
}
