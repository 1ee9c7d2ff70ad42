import java.lang.management.ManagementFactory;

/** How much room calls take: all of a run's objects live at once, so calls must make next to none. */
public final class RoomTest {
    private static final com.sun.management.ThreadMXBean THREADS = (com.sun.management.ThreadMXBean) ManagementFactory.getThreadMXBean();
    private static final int MOST_OF_AN_OBJECT = 40_000;
    private static final int MOST_OF_A_LAW = 4_000;
    // what the measuring itself may take
    private static final int SLACK = 1_000;

    private static int wrong = 0;
    private static StampQuarrels x;

    private static long taken() {
        return THREADS.getThreadAllocatedBytes(Thread.currentThread().getId());
    }

    private static void hold(String what, long bytes, long most) {
        if (bytes > most) {
            wrong++;
            System.out.println(what + " took " + bytes + " bytes, at most " + most + " are due");
        }
    }

    public static void main(String[] args) {
        begin();
        long ahead = taken();
        x = new StampQuarrels();
        hold("a new object", taken() - ahead, MOST_OF_AN_OBJECT);
        begin();
        StringBuilder text = new StringBuilder("quarrels temper");
        for (int i = 0; i < 24; i++) text.append("+ire*1");
        Tape.write(x, text.toString());
        ahead = taken();
        int law = x.law();
        hold("law()", taken() - ahead, MOST_OF_A_LAW);
        hold("law() of 49 parts, REFUSED by " + law, law < 0 ? 1 : 0, 0);
        begin();
        ahead = taken();
        for (int i = 0; i < 3; i++) ask();
        hold("questions", taken() - ahead, SLACK);
        ahead = taken();
        for (int i = 0; i < 3; i++) act();
        hold("deeds", taken() - ahead, SLACK);
        Tape.write(x, "stick 0 on 0;peel 0;pass times 3;stick 1 on 0;cancel 0");
        ahead = taken();
        x.orders();
        hold("orders()", taken() - ahead, SLACK);
        Tape.write(x, "quarrels quarrels");
        ahead = taken();
        x.law();
        hold("law() with a FAULT", taken() - ahead, SLACK);
        System.out.println(wrong == 0 ? "calls take the room that is due" : wrong + " take more room");
        if (wrong > 0) System.exit(1);
    }

    private static void begin() {
        x = new StampQuarrels();
        for (int i = 0; i < 10; i++) x.stamp(1 + i, i % 6, i % 10, 9);
        for (int i = 0; i < 3; i++) x.letter(9 * i);
        Tape.write(x, "quarrels temper-ire;bars if temper=ire;counts worth");
        x.force(x.law());
        x.image(0);
    }

    private static void ask() {
        for (int i = 0; i < 10; i++) {
            x.of(i, i);
            x.at(i % 3, i);
            x.asks(i, 9 - i, i % 2);
            x.kin(i);
            x.count(i);
            x.pockets(i);
        }
        for (int l = 0; l < 3; l++) {
            x.madeUp(l, 0);
            x.buffers(l, -1);
            x.exchanged(l, 0);
            x.holds(l);
            x.compare(l - 1);
            x.drawn(l, l);
        }
        x.canBe();
        x.beside(0);
        x.sorts(30, 0);
        x.fewest(60, 1023);
        x.fault();
        x.stopped();
        x.misprints();
        x.status();
    }

    private static void act() {
        x.stick(3, 0);
        x.stick(4, 0);
        x.peel(0);
        x.pass();
        x.cancel(0);
        x.undo();
        x.hear(1, 1);
        x.forget();
        x.reigns(5, 60);
        x.terms(1, 1);
        x.image(1);
        x.feed(1, 2, 3, 4, 5);
        x.row();
        x.back(0);
        x.force(0);
        x.law();
    }
}
