/** A new object, called by names. Nothing is promised beyond 512 calls, so no test goes on there. */
final class Called implements Answers {
    private static final int MOST_CALLS = 512;
    private final SettingsInLayers x = new SettingsInLayers();
    private int calls;

    @Override
    public long answer(String name, int... a) {
        calls++;
        if (calls > MOST_CALLS) {
            throw new IllegalStateException("a test calls its object more than 512 times: " + name);
        }
        switch (name) {
            case "letter": return x.letter(a[0]);
            case "settings": return x.settings();
            case "turns": return x.turns(a[0]);
            case "kind": return x.kind(a[0], a[1], a[2]);
            case "manner": return x.manner(a[0], a[1]);
            case "sets": return x.sets(a[0], a[1], a[2]);
            case "adds": return x.adds(a[0], a[1], a[2], a[3]);
            case "refers": return x.refers(a[0], a[1], a[2], a[3]);
            case "gap": return x.gap(a[0], a[1]);
            case "drops": return x.drops(a[0], a[1]);
            case "layer": return x.layer(a[0], a[1]);
            case "entry": return x.entry(a[0], a[1], a[2]);
            case "value": return x.value(a[0], a[1]);
            case "item": return x.item(a[0], a[1], a[2]);
            case "fault": return x.fault(a[0], a[1], a[2]);
            case "sources": return x.sources(a[0], a[1]);
            case "uses": return x.uses(a[0], a[1]);
            case "all": return x.all(a[0]);
            default: return question(name, a);
        }
    }

    private long question(String name, int... a) {
        switch (name) {
            case "hidden": return x.hidden(a[0]);
            case "without": return x.without(a[0], a[1]);
            case "turn": return x.turn(a[0], a[1]);
            case "set": return x.set(a[0], a[1], a[2], a[3]);
            case "byManner": return x.byManner(a[0], a[1]);
            case "fewest": return x.fewest();
            case "since": return x.since();
            case "missing": return x.missing(a[0], a[1], a[2], a[3]);
            case "mean": return x.mean(a[0]);
            case "whatIs": return x.whatIs(a[0], a[1]);
            case "row": return x.row(a[0]);
            case "judge": return x.judge();
            case "clear": return x.clear();
            case "lots": return x.lots(a[0], a[1], a[2]);
            case "image": return x.image();
            case "on": return x.on();
            case "count": return x.count(a[0]);
            default: throw new IllegalArgumentException(name);
        }
    }
}
