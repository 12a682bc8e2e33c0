/** Calls of the class by their names. */
final class Calls {
    private Calls() {
    }

    /** A call as it is written: put(0, MAX, -1); MAX and MIN are the greatest and the least int. */
    static long told(VillageCuts x, String text) {
        int open = text.indexOf('(');
        String inside = text.substring(open + 1, text.length() - 1);
        String[] numbers = inside.isEmpty() ? new String[0] : inside.split(", ");
        int[] a = new int[numbers.length];
        for (int k = 0; k < a.length; k++) {
            switch (numbers[k]) {
                case "MAX": a[k] = Integer.MAX_VALUE; break;
                case "MIN": a[k] = Integer.MIN_VALUE; break;
                default: a[k] = Integer.parseInt(numbers[k]);
            }
        }
        return call(x, text.substring(0, open), a);
    }

    static long call(VillageCuts x, String name, int... a) {
        switch (name) {
            case "land": return x.land(a[0], a[1], a[2], a[3]);
            case "ofVillage": return x.ofVillage(a[0], a[1]);
            case "thing": return x.thing(a[0], a[1], a[2]);
            case "ahead": return x.ahead(a[0], a[1], a[2], a[3]);
            case "happen": return x.happen(a[0]);
            case "anew": return x.anew();
            case "cut": return x.cut(a[0], a[1], a[2], a[3]);
            case "now": return x.now(a[0]);
            case "tale": return x.tale(a[0], a[1], a[2], a[3], a[4]);
            case "cuts": return x.cuts();
            case "runs": return x.runs();
            case "first": return x.first(a[0]);
            case "some": return x.some(a[0]);
            case "every": return x.every(a[0]);
            case "reading": return x.reading(a[0], a[1], a[2], a[3]);
            case "back": return x.back(a[0]);
            case "kinds": return x.kinds(a[0]);
            case "odds": return x.odds(a[0], a[1]);
            case "sheet": return x.sheet(a[0], a[1], a[2]);
            case "lose": return x.lose(a[0]);
            case "put": return x.put(a[0], a[1], a[2]);
            case "cell": return x.cell(a[0], a[1], a[2]);
            case "copy": return x.copy(a[0], a[1], a[2], a[3], a[4]);
            case "tell": return x.tell(a[0]);
            case "ring": return x.ring(a[0]);
            case "as": return x.as(a[0], a[1]);
            case "trace": return x.trace();
            case "fault": return x.fault();
            case "many": return x.many(a[0]);
            default: throw new IllegalArgumentException(name);
        }
    }
}
