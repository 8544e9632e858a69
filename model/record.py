"""record.py: writes runs by chance, with the model's answers, for src/test/java/RecordedRuns.java to hold the class to."""
import chance
from model import House

chance.rnd.seed(20261119)
for kind, runs, length, longest in (('mix', 5, 60, 400), ('churn', 3, 80, 300), ('tree', 6, 90, 300), ('explain', 5, 60, 400),
                                    ('parse', 3, 50, 300), ('deep', 3, 40, 400), ('room', 1, 45, 2000)):
    for run in range(runs):
        print('new')
        house = House()
        asked = 0
        while asked < length:
            request = chance.G[kind](asked)
            if len(request) <= longest:
                print(request.hex(), house.ask(request).hex(), ','.join(map(str, house.state())))
                asked += 1
