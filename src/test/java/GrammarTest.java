import java.util.ArrayList;
import java.util.List;

/**
 * All texts of a few tokens from two lists: each that can still go on is gone on with by every token, and the place of the
 * FAULT is held against that which Recognizer finds by the document's grammar.
 */
public final class GrammarTest {
    private static final String[] SIGNS = {"<", ">", "=", "+", "-", "*", "/", "%", "(", ")", "[", "]", ";", "if", "or", "and", "not", "1", "1001", "x", "#"};
    private static final String[] OF_LAWS = {"quarrels", "dries", "counts", "bars", "temper", "mood", "stick"};
    private static final String[] OF_ORDERS = {"stick", "on", "peel", "cancel", "pass", "times", "day", "paid", "quarrel", "spot", "0", "2", "3", "9", "10", "20", "21", "bars"};
    private static final int MOST_TOKENS = 5;

    private static int wrong = 0;

    public static void main(String[] args) {
        int most = args.length > 0 ? Integer.parseInt(args[0]) : MOST_TOKENS;
        int texts = tryAll(false, most) + tryAll(true, most);
        System.out.println(texts + " texts of at most " + most + " tokens, " + wrong + " answered wrongly");
        if (wrong > 0) System.exit(1);
    }

    private static int tryAll(boolean orders, int most) {
        List<String> tokens = new ArrayList<>(List.of(SIGNS));
        tokens.addAll(List.of(orders ? OF_ORDERS : OF_LAWS));
        List<String> viable = new ArrayList<>(List.of(""));
        int texts = 0;
        for (int n = 0; n < most; n++) {
            List<String> longer = new ArrayList<>();
            for (String ahead : viable) {
                for (String token : tokens) {
                    String text = ahead + " " + token;
                    texts++;
                    int fault = Recognizer.fault(text, orders);
                    hold(text, orders, fault);
                    if (fault == -1 || fault == text.length()) longer.add(text);
                }
            }
            viable = longer;
        }
        return texts;
    }

    private static void hold(String text, boolean orders, int fault) {
        StampQuarrels x = Tape.write(new StampQuarrels(), text);
        int told = orders ? x.orders() : x.law();
        boolean so = x.fault() == fault && (fault == -1 ? told != -6 : told == -6) && x.count(6) == 0 && x.count(4) == (fault == -1 && !orders ? 1 : 0);
        if (so) return;
        wrong++;
        System.out.println("\"" + text + "\": " + told + ", FAULT at " + x.fault() + ", due is " + fault);
    }
}
