/** A LampWall, its calls made by name and counted. */
final class Real implements Calls {
    private final LampWall x = new LampWall();
    private int made = 0;

    int made() {
        return made;
    }

    @Override
    public long call(String name, int... a) {
        made++;
        if (made > CALLS_MOST) {
            throw new IllegalStateException("the test asks for more than is promised of one object");
        }
        switch (name) {
            case "wall": return x.wall(a[0], a[1], a[2], a[3]);
            case "ofModule": return x.ofModule(a[0], a[1]);
            case "ofLamp": return x.ofLamp(a[0], a[1]);
            case "level": return x.level(a[0], a[1]);
            case "die": return x.die(a[0]);
            case "cut": return x.cut(a[0]);
            case "ofUnit": return x.ofUnit(a[0], a[1]);
            case "slices": return x.slices(a[0]);
            case "bears": return x.bears(a[0]);
            case "steadiest": return x.steadiest(a[0]);
            case "send": return x.send(a[0], a[1], a[2], a[3]);
            case "day": return x.day(a[0], a[1], a[2], a[3], a[4]);
            case "reading": return x.reading(a[0], a[1], a[2]);
            case "back": return x.back(a[0]);
            case "kinds": return x.kinds(a[0]);
            case "levels": return x.levels(a[0]);
            case "cuts": return x.cuts();
            case "odds": return x.odds(a[0], a[1], a[2]);
            case "sheet": return x.sheet(a[0], a[1], a[2]);
            case "lose": return x.lose(a[0]);
            case "put": return x.put(a[0], a[1], a[2]);
            case "cell": return x.cell(a[0], a[1], a[2]);
            case "copy": return x.copy(a[0], a[1], a[2], a[3], a[4]);
            case "tell": return x.tell(a[0]);
            case "switchOn": return x.switchOn(a[0]);
            case "as": return x.as(a[0], a[1]);
            case "trace": return x.trace();
            case "fault": return x.fault();
            case "many": return x.many(a[0]);
            default: throw new IllegalStateException("there is no call " + name);
        }
    }
}
