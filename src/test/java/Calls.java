/** The class's calls by their names, for tests that have them as texts. */
final class Calls {
    private Calls() {
    }

    static long call(StampQuarrels x, String name, int... a) {
        switch (name) {
            case "stamp": return x.stamp(a[0], a[1], a[2], a[3]);
            case "of": return x.of(a[0], a[1]);
            case "letter": return x.letter(a[0]);
            case "at": return x.at(a[0], a[1]);
            case "asks": return x.asks(a[0], a[1], a[2]);
            case "terms": return x.terms(a[0], a[1]);
            case "feed": return x.feed(a[0], a[1], a[2], a[3], a[4]);
            case "end": return x.end(a[0]);
            case "row": return x.row();
            case "misprints": return x.misprints();
            case "law": return x.law();
            case "orders": return x.orders();
            case "fault": return x.fault();
            case "stopped": return x.stopped();
            case "force": return x.force(a[0]);
            case "stick": return x.stick(a[0], a[1]);
            case "peel": return x.peel(a[0]);
            case "cancel": return x.cancel(a[0]);
            case "pass": return x.pass();
            case "undo": return x.undo();
            case "madeUp": return x.madeUp(a[0], a[1]);
            case "buffers": return x.buffers(a[0], a[1]);
            case "exchanged": return x.exchanged(a[0], a[1]);
            case "pockets": return x.pockets(a[0]);
            case "hear": return x.hear(a[0], a[1]);
            case "forget": return x.forget();
            case "canBe": return x.canBe();
            case "beside": return x.beside(a[0]);
            case "sorts": return x.sorts(a[0], a[1]);
            case "fewest": return x.fewest(a[0], a[1]);
            case "holds": return x.holds(a[0]);
            case "kin": return x.kin(a[0]);
            case "compare": return x.compare(a[0]);
            case "reigns": return x.reigns(a[0], a[1]);
            case "drawn": return x.drawn(a[0], a[1]);
            case "image": return x.image(a[0]);
            case "back": return x.back(a[0]);
            case "count": return x.count(a[0]);
            case "status": return x.status();
            default: throw new IllegalArgumentException(name);
        }
    }
}
