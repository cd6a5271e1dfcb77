/** Calls by their names, on the class and on the model. */
final class Calls {
    private Calls() {
    }

    static long onReal(LineColours x, String name, int[] a) {
        switch (name) {
            case "begin": return x.begin(a[0]) ? 1 : 0;
            case "line": return x.line(a[0], a[1]);
            case "paint": return x.paint(a[0], a[1]) ? 1 : 0;
            case "bare": return x.bare(a[0]);
            case "turn": return x.turn(a[0], a[1], a[2]);
            case "swap": return x.swap(a[0], a[1]);
            case "grow": return x.grow(a[0]);
            case "growAll": return x.growAll();
            case "pair": return x.pair();
            case "even": return x.even();
            case "take": return x.take(a[0]) ? 1 : 0;
            case "keep": return x.keep() ? 1 : 0;
            case "back": return x.back();
            case "grown": return x.grown(a[0]);
            case "of": return x.of(a[0], a[1]);
            case "clash": return x.clash(a[0], a[1]);
            case "post": return x.post(a[0], a[1]);
            case "colour": return x.colour(a[0], a[1]);
            case "chain": return x.chain(a[0], a[1], a[2], a[3]);
            case "idle": return x.idle(a[0]);
            case "calmer": return x.calmer(a[0]);
            case "fan": return x.fan(a[0], a[1], a[2]);
            case "index": return x.index();
            case "first": return x.first(a[0], a[1]);
            case "overfull": return x.overfull(a[0]);
            case "refused": return x.refused(a[0], a[1]);
            case "list": return x.list(a[0], a[1]);
            case "listed": return x.listed(a[0]);
            case "free": return x.free(a[0]);
            case "longest": return x.longest(a[0]);
            case "sets": return x.sets(a[0]);
            case "critical": return x.critical();
            case "kinds": return x.kinds(a[0]);
            case "turns": return x.turns(a[0]);
            case "chains": return x.chains(a[0], a[1]);
            case "sides": return x.sides(a[0]);
            case "apart": return x.apart(a[0]);
            case "ways": return x.ways(a[0]);
            case "unlike": return x.unlike(a[0]);
            case "count": return x.count(a[0]);
            default: throw new IllegalArgumentException(name);
        }
    }

    static long onPlain(Plain x, String name, int[] a) {
        switch (name) {
            case "begin": return x.begin(a[0]) ? 1 : 0;
            case "line": return x.line(a[0], a[1]);
            case "paint": return x.paint(a[0], a[1]) ? 1 : 0;
            case "bare": return x.bare(a[0]);
            case "turn": return x.turn(a[0], a[1], a[2]);
            case "swap": return x.swap(a[0], a[1]);
            case "grow": return x.grow(a[0]);
            case "growAll": return x.growAll();
            case "pair": return x.pair();
            case "even": return x.even();
            case "take": return x.take(a[0]) ? 1 : 0;
            case "keep": return x.keep() ? 1 : 0;
            case "back": return x.back();
            case "grown": return x.grown(a[0]);
            case "of": return x.of(a[0], a[1]);
            case "clash": return x.clash(a[0], a[1]);
            case "post": return x.post(a[0], a[1]);
            case "colour": return x.colour(a[0], a[1]);
            case "chain": return x.chain(a[0], a[1], a[2], a[3]);
            case "idle": return x.idle(a[0]);
            case "calmer": return x.calmer(a[0]);
            case "fan": return x.fan(a[0], a[1], a[2]);
            case "index": return x.index();
            case "first": return x.first(a[0], a[1]);
            case "overfull": return x.overfull(a[0]);
            case "refused": return x.refused(a[0], a[1]);
            case "list": return x.list(a[0], a[1]);
            case "listed": return x.listed(a[0]);
            case "free": return x.free(a[0]);
            case "longest": return x.longest(a[0]);
            case "sets": return x.sets(a[0]);
            case "critical": return x.critical();
            case "kinds": return x.kinds(a[0]);
            case "turns": return x.turns(a[0]);
            case "chains": return x.chains(a[0], a[1]);
            case "sides": return x.sides(a[0]);
            case "apart": return x.apart(a[0]);
            case "ways": return x.ways(a[0]);
            case "unlike": return x.unlike(a[0]);
            case "count": return x.count(a[0]);
            default: throw new IllegalArgumentException(name);
        }
    }
}
